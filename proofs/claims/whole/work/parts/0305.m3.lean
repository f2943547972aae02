/-! ===== pure part 3: what can be drawn; players ===== -/
def okF (d : Int32) (f : Nat) : Prop := ¬ (sM f < dgt d f) ∧ (dgt d f = 0 ∨ hasN d f)
def okB (d : Int32) : Prop := (0 ≤ d ∧ d ≤ 111622) ∧ ∀ f, 1 ≤ f → f ≤ 6 → okF d f
theorem m_cb_step {f n : Nat} {d : Int32} (h1 : 1 ≤ f) (h6 : f ≤ 6) (hz : dgt d f ≤ 0 → dgt d f = 0) : (okF d f ∧ f_X0_canBe_b14 (n + 1) d (nI f) = f_X0_canBe_b14 n d (nI (f + 1))) ∨ (¬ okF d f ∧ f_X0_canBe_b14 (n + 1) d (nI f) = some 0) := by
  rw [f_X0_canBe_b14_s, if_neg (by rw [l6, m_lt (by omega) (by omega)]; omega), m_count h1 h6, Option.bind_some, m_chk (by omega) (by omega), m_cl (by omega), nI_1]
  by_cases c : sM f < dgt d f
  · rw [if_pos c]
    exact Or.inr ⟨fun q => q.1 c, rfl⟩
  · rw [if_neg c]
    by_cases z : dgt d f ≤ 0
    · rw [if_pos z]
      exact Or.inl ⟨⟨c, Or.inl (hz z)⟩, rfl⟩
    · rw [if_neg z]
      obtain ⟨r, e, h | h⟩ := m_has h1 h6 d
      · rw [e, Option.bind_some, h.1, i10]
        exact Or.inl ⟨⟨c, Or.inr h.2⟩, rfl⟩
      · rw [e, Option.bind_some, h.1, i00]
        exact Or.inr ⟨fun q => q.2.elim (fun y => z (by rw [y]; decide)) h.2, rfl⟩
theorem m_cb_loop {d : Int32} (hz : ∀ f, 1 ≤ f → f ≤ 6 → dgt d f ≤ 0 → dgt d f = 0) (n : Nat) : ∀ j, j ≤ 6 → ((∀ f, 7 - j ≤ f → f ≤ 6 → okF d f) ∧ f_X0_canBe_b14 (n + j + 1) d (nI (7 - j)) = some 1) ∨ (¬ (∀ f, 7 - j ≤ f → f ≤ 6 → okF d f) ∧ f_X0_canBe_b14 (n + j + 1) d (nI (7 - j)) = some 0) := by
  intro j
  induction j with
  | zero =>
    intro _
    refine Or.inl ⟨fun f h1 h2 => by omega, ?_⟩
    rw [f_X0_canBe_b14_s, if_pos (by decide)]
  | succ j ih =>
    intro hj
    have e7 : 7 - (j + 1) + 1 = 7 - j := by omega
    rcases m_cb_step (n := n + j + 1) (f := 7 - (j + 1)) (d := d) (by omega) (by omega) (hz _ (by omega) (by omega)) with ⟨h, e⟩ | ⟨h, e⟩
    · rw [show n + (j + 1) + 1 = n + j + 1 + 1 by omega, e, e7]
      rcases ih (by omega) with ⟨h2, e2⟩ | ⟨h2, e2⟩
      · refine Or.inl ⟨fun f a b => ?_, e2⟩
        by_cases q : f = 7 - (j + 1)
        · rw [q]; exact h
        · exact h2 f (by omega) b
      · exact Or.inr ⟨fun q => h2 (fun f a b => q f (by omega) b), e2⟩
    · rw [show n + (j + 1) + 1 = n + j + 1 + 1 by omega, e]
      exact Or.inr ⟨fun q => h (q _ (Nat.le_refl _) (by omega)), rfl⟩
/-- figures of a number that is not negative -/
def dN (n f : Nat) : Nat := n / 10 ^ (f - 1) % 10
theorem m_dgt {n f : Nat} (hn : n < 2 ^ 31) (h1 : 1 ≤ f) (h6 : f ≤ 6) : dgt (nI n) f = nI (dN n f) := by
  unfold dgt dN
  have key : ∀ u : Nat, 0 < u → u < 2 ^ 31 → sU f = nI u → 10 ^ (f - 1) = u → nI n / sU f - nI n / sU f / 10 * 10 = nI (n / 10 ^ (f - 1) % 10) := by
    intro u h0 hu e1 e2
    rw [e1, e2, pk_div hn h0 hu, l10, pk_rem (Nat.lt_of_le_of_lt (Nat.div_le_self _ _) hn) (by omega) (by omega)]
  match f, h1, h6 with
  | 1, _, _ => exact key 1 (by omega) (by omega) rfl rfl
  | 2, _, _ => exact key 10 (by omega) (by omega) rfl rfl
  | 3, _, _ => exact key 100 (by omega) (by omega) rfl rfl
  | 4, _, _ => exact key 1000 (by omega) (by omega) rfl rfl
  | 5, _, _ => exact key 10000 (by omega) (by omega) rfl rfl
  | 6, _, _ => exact key 100000 (by omega) (by omega) rfl rfl
theorem dN_lt (n f : Nat) : dN n f < 10 := Nat.mod_lt _ (by omega)
theorem m_dz {d : Int32} (hd : 0 ≤ d ∧ d ≤ 111622) : ∀ f, 1 ≤ f → f ≤ 6 → dgt d f ≤ 0 → dgt d f = 0 := by
  intro f h1 h6 h
  obtain ⟨n, hn, rfl⟩ := m_of (n := 111622) (by decide) hd
  have hlt := dN_lt n f
  rw [m_dgt (by omega) h1 h6] at h ⊢
  rw [l0, m_le (by omega) (by omega)] at h
  rw [show dN n f = 0 by omega]
  rfl
theorem m_canBe (d : Int32) : (okB d ∧ f_X0_canBe d = some 1) ∨ (¬ okB d ∧ f_X0_canBe d = some 0) := by
  unfold f_X0_canBe
  rw [m_isWithin, Option.bind_some]
  by_cases h : 0 ≤ d ∧ d ≤ 111622
  · rw [if_pos h, i10]
    rcases m_cb_loop (m_dz h) 1017 6 (by omega) with ⟨h2, e⟩ | ⟨h2, e⟩
    · exact Or.inl ⟨⟨h, fun f a b => h2 f (by omega) b⟩, e⟩
    · exact Or.inr ⟨fun q => h2 (fun f a b => q.2 f (by omega) b), e⟩
  · rw [if_neg h, i00]
    exact Or.inr ⟨fun q => h q.1, rfl⟩
theorem m_ib0 {mo : Nat → Int32} {d : Int32} (n : Nat) : ∀ j, j ≤ 6 → f_X12_isBeetle_b12 mo (n + j + 1) d 0 (nI (6 - j)) = some 0 := by
  intro j
  induction j with
  | zero =>
    intro _
    rw [f_X12_isBeetle_b12_s, if_pos (by decide)]
    rfl
  | succ j ih =>
    intro hj
    rw [show n + (j + 1) + 1 = n + j + 1 + 1 by omega, f_X12_isBeetle_b12_s, if_neg (by rw [l6, m_le (by omega) (by omega)]; omega), m_fig (by omega), Option.bind_some, i00, nI_1, show 6 - (j + 1) + 1 = 6 - j by omega]
    exact ih (by omega)
theorem m_ib_step {mo : Nat → Int32} (hm : MostR mo) {f n : Nat} {d : Int32} (h1 : 1 ≤ f) (h6 : f ≤ 6) : (okF d f ∧ f_X12_isBeetle_b12 mo (n + 1) d 1 (nI (6 - f)) = f_X12_isBeetle_b12 mo n d 1 (nI (7 - f))) ∨ (¬ okF d f ∧ f_X12_isBeetle_b12 mo (n + 1) d 1 (nI (6 - f)) = f_X12_isBeetle_b12 mo n d 0 (nI (7 - f))) := by
  rw [f_X12_isBeetle_b12_s, if_neg (by rw [l6, m_le (by omega) (by omega)]; omega), m_fig (by omega), Option.bind_some, i10, m_chk (by omega) (by omega), m_cl (by omega), m_most hm h1 h6, show 6 - (6 - f) = f by omega, nI_1, show 6 - f + 1 = 7 - f by omega]
  by_cases c : sM f < dgt d f
  · rw [if_pos c]
    exact Or.inr ⟨fun q => q.1 c, rfl⟩
  · rw [if_neg c]
    by_cases z : dgt d f = 0
    · rw [if_pos z]
      exact Or.inl ⟨⟨c, Or.inl z⟩, rfl⟩
    · rw [if_neg z]
      have key : ∀ (k g : Nat), f ≠ 6 → g = ndf f → k < 6 → 6 - k = g → f_X12_needOf (nI (6 - f)) = some (nI k) → (okF d f ∧ ((f_X12_needOf (nI (6 - f))).bind fun z11 => (if z11 < 0 then (f_X12_isBeetle_b12 mo n d (1 : Int32) (nI (7 - f))) else (f_X12_needOf (nI (6 - f))).bind fun z14 => ((f_X12_figureOf d z14).bind fun z16 => (if z16 ≤ 0 then (f_X12_isBeetle_b12 mo n d (0 : Int32) (nI (7 - f))) else (f_X12_isBeetle_b12 mo n d (1 : Int32) (nI (7 - f))))))) = f_X12_isBeetle_b12 mo n d 1 (nI (7 - f))) ∨ (¬ okF d f ∧ ((f_X12_needOf (nI (6 - f))).bind fun z11 => (if z11 < 0 then (f_X12_isBeetle_b12 mo n d (1 : Int32) (nI (7 - f))) else (f_X12_needOf (nI (6 - f))).bind fun z14 => ((f_X12_figureOf d z14).bind fun z16 => (if z16 ≤ 0 then (f_X12_isBeetle_b12 mo n d (0 : Int32) (nI (7 - f))) else (f_X12_isBeetle_b12 mo n d (1 : Int32) (nI (7 - f))))))) = f_X12_isBeetle_b12 mo n d 0 (nI (7 - f))) := by
        intro k g hf hg hk hkg e
        rw [e, Option.bind_some, if_neg (nI_pos (by omega)), Option.bind_some, m_fig hk, Option.bind_some, hkg]
        by_cases y : dgt d g ≤ 0
        · rw [if_pos y]
          exact Or.inr ⟨fun q => q.2.elim z (fun u => u.elim hf (fun v => v (hg ▸ y))), rfl⟩
        · rw [if_neg y]
          exact Or.inl ⟨⟨c, Or.inr (Or.inr (hg ▸ y))⟩, rfl⟩
      match f, h1, h6 with
      | 1, _, _ => exact key 1 5 (by omega) rfl (by omega) rfl rfl
      | 2, _, _ => exact key 1 5 (by omega) rfl (by omega) rfl rfl
      | 3, _, _ => exact key 0 6 (by omega) rfl (by omega) rfl rfl
      | 4, _, _ => exact key 0 6 (by omega) rfl (by omega) rfl rfl
      | 5, _, _ => exact key 0 6 (by omega) rfl (by omega) rfl rfl
      | 6, _, _ => exact Or.inl ⟨⟨c, Or.inr (Or.inl rfl)⟩, rfl⟩
theorem m_ib_loop {mo : Nat → Int32} (hm : MostR mo) {d : Int32} (n : Nat) : ∀ j, j ≤ 6 → ((∀ f, 1 ≤ f → f ≤ j → okF d f) ∧ f_X12_isBeetle_b12 mo (n + j + 1) d 1 (nI (6 - j)) = some 1) ∨ (¬ (∀ f, 1 ≤ f → f ≤ j → okF d f) ∧ f_X12_isBeetle_b12 mo (n + j + 1) d 1 (nI (6 - j)) = some 0) := by
  intro j
  induction j with
  | zero =>
    intro _
    refine Or.inl ⟨fun f h1 h2 => by omega, ?_⟩
    rw [f_X12_isBeetle_b12_s, if_pos (by decide)]
    rfl
  | succ j ih =>
    intro hj
    have e7 : 7 - (j + 1) = 6 - j := by omega
    rcases m_ib_step hm (n := n + j + 1) (f := j + 1) (d := d) (by omega) (by omega) with ⟨h, e⟩ | ⟨h, e⟩
    · rw [show n + (j + 1) + 1 = n + j + 1 + 1 by omega, e, e7]
      rcases ih (by omega) with ⟨h2, e2⟩ | ⟨h2, e2⟩
      · refine Or.inl ⟨fun f a b => ?_, e2⟩
        by_cases q : f = j + 1
        · rw [q]; exact h
        · exact h2 f a (by omega)
      · exact Or.inr ⟨fun q => h2 (fun f a b => q f a (by omega)), e2⟩
    · rw [show n + (j + 1) + 1 = n + j + 1 + 1 by omega, e, e7, m_ib0 n j (by omega)]
      exact Or.inr ⟨fun q => h (q _ (by omega) (Nat.le_refl _)), rfl⟩
theorem m_isBeetle {mo : Nat → Int32} (hm : MostR mo) (d : Int32) : (okB d ∧ f_X12_isBeetle mo d = some 1) ∨ (¬ okB d ∧ f_X12_isBeetle mo d = some 0) := by
  unfold f_X12_isBeetle
  rw [m_in32 (a := 0) (b := 111622) (lo := 0) (hi := 111622) rfl rfl, Option.bind_some]
  by_cases h : 0 ≤ d ∧ d ≤ 111622
  · rw [if_pos h]
    rcases m_ib_loop hm (d := d) 1017 6 (by omega) with ⟨h2, e⟩ | ⟨h2, e⟩
    · exact Or.inl ⟨⟨h, fun f a b => h2 f a b⟩, e⟩
    · exact Or.inr ⟨fun q => h2 (fun f a b => q.2 f a b), e⟩
  · rw [if_neg h]
    exact Or.inr ⟨fun q => h q.1, m_ib0 1017 6 (by omega)⟩
theorem m_player {ib ho ga : Int32} {d p b pt inn mo : Nat → Int32} {ho' ga' : Int32} (hT : TabR ib ho ga d p b pt inn ho' ga') (hm : MostR mo) (x1 x2 x3 : Int32) : ∃ oc om, f_X11_player d p x1 x2 x3 = some oc ∧ f_X12_player mo b pt x1 x2 x3 = some om ∧ oc.1 = om.1 ∧ TabR ib ho ga oc.2.1 oc.2.2 om.2.1 om.2.2 inn ho' ga' := by
  obtain ⟨h1, h2, h3, h4⟩ := hT
  unfold f_X11_player f_X12_player
  rw [m_isPlayer, m_isPlayer', Option.bind_some, Option.bind_some]
  by_cases hx : 0 ≤ x1 ∧ x1 ≤ 5
  · rw [if_pos hx, i10, i10]
    obtain ⟨j, hj, rfl⟩ := m_of (n := 5) (by decide) hx
    rcases m_canBe x2 with ⟨hb, e⟩ | ⟨hb, e⟩
    · have e2 := (m_isBeetle hm x2).resolve_right (fun q => q.1 hb)
      rw [e, e2.2, Option.bind_some, Option.bind_some, i10, i10, m_isWithin, m_in32 (a := 0) (b := 999) (lo := 0) (hi := 999) rfl rfl, Option.bind_some, Option.bind_some]
      by_cases hy : 0 ≤ x3 ∧ x3 ≤ 999
      · rw [if_pos hy, i10, i10]
        simp (disch := omega) only [m_chk, m_cl]
        exact ⟨_, _, rfl, rfl, h2 j (by omega), upd_E h1 j x2, upd_E h2 j x3, h3, h4⟩
      · rw [if_neg hy, i00, i00]
        exact ⟨_, _, rfl, rfl, rfl, h1, h2, h3, h4⟩
    · have e2 := (m_isBeetle hm x2).resolve_left (fun q => hb q.1)
      rw [e, e2.2, Option.bind_some, Option.bind_some, i00, i00]
      exact ⟨_, _, rfl, rfl, rfl, h1, h2, h3, h4⟩
  · rw [if_neg hx, i00, i00]
    exact ⟨_, _, rfl, rfl, rfl, h1, h2, h3, h4⟩
