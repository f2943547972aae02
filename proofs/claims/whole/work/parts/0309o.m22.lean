/-! ===== pure part 22: the sheets, links and orders; places ===== -/
theorem m_ix (i f : Nat) : nI i * 6 + nI (f + 1) - 1 = nI (i * 6 + f) := by
  rw [l6, pk_mul, nI_add, l1, pk_sub (by omega)]; congr 1
theorem m_link_loop {d orders : Nat → Int32} (hD : DR d) {i : Nat} (hi : i < 141) (hO : ∀ j, i < j → j < 141 → orders j = nI (oN j)) (n : Nat) : ∀ m f next, f + m = 6 → (∀ g, g < f → next (i * 6 + g) = nI (nx i g)) → ∃ next', f_X6_linkAndCount_b4 d (n + m + 1) (nI i) (nI (oP i f)) (nI (f + 1)) next orders = some (next', upd orders i (nI (oN i))) ∧ (∀ g, g < 6 → next' (i * 6 + g) = nI (nx i g)) ∧ (∀ q, (q < i * 6 ∨ i * 6 + 6 ≤ q) → next' q = next q) := by
  intro m
  induction m with
  | zero =>
    intro f next hf h
    have e : f = 6 := by omega
    subst e
    rw [f_X6_linkAndCount_b4_s, if_pos (show (6 : Int32) < nI (6 + 1) by decide), m_chk hi (by omega), m_chk hi (by omega), m_cl (by omega), hD i hi]
    refine ⟨next, ?_, h, fun _ _ => rfl⟩
    by_cases c : i = 140
    · subst c
      rw [t_b140, if_pos (show nI 111622 = 111622 from rfl), t_o140]
      rfl
    · have := b_lt 140 i (by omega) (by omega)
      rw [t_b140] at this
      rw [if_neg (by rw [l111622, m_eq (by omega) (by omega)]; omega), m_chk hi (by omega), t_o i (by omega)]
  | succ m ih =>
    intro f next hf h
    have hf6 : f < 6 := by omega
    obtain ⟨n1, n2⟩ := t_nx i hi f hf6
    rw [show n + (m + 1) + 1 = n + m + 1 + 1 by omega, f_X6_linkAndCount_b4_s, if_neg (show ¬ (6 : Int32) < nI (f + 1) by rw [l6, m_lt (by omega) (by omega)]; omega), m_chk hi (by omega), m_cl (by omega), hD i hi, m_sdraw hi hf6, Option.bind_some, m_findB hD n2, Option.bind_some, if_neg (m_ne6 (by omega))]
    unfold f_X6_linkAndCount_b39
    rw [m_ix, m_chk (by omega) (by omega), m_cl (i := i * 6 + f) (by omega), nI_1]
    have up : ∀ g, g < f + 1 → upd next (i * 6 + f) (nI (nx i f)) (i * 6 + g) = nI (nx i g) := by
      intro g hg
      by_cases c : g = f
      · subst c; rw [upd_at]
      · rw [upd_ne (by omega)]; exact h g (by omega)
    by_cases c : nx i f = i
    · rw [if_pos (by rw [c])]
      obtain ⟨next', g1, g2, g3⟩ := ih (f + 1) (upd next (i * 6 + f) (nI (nx i f))) (by omega) up
      refine ⟨next', ?_, g2, fun q hq => by rw [g3 q hq, upd_ne (by omega)]⟩
      rw [Int32.add_zero, ← g1]
      congr 2
      show oP i f = oP i f + (if nx i f = i then 0 else oN (nx i f))
      rw [if_pos c, Nat.add_zero]
    · rw [if_neg (by rw [m_eq (by omega) (by omega)]; exact c), m_chk n2 (by omega), m_cl (by omega), hO _ (by omega) n2, nI_add]
      obtain ⟨next', g1, g2, g3⟩ := ih (f + 1) (upd next (i * 6 + f) (nI (nx i f))) (by omega) up
      refine ⟨next', ?_, g2, fun q hq => by rw [g3 q hq, upd_ne (by omega)]⟩
      rw [← g1]
      congr 2
      show oP i f + oN (nx i f) = oP i f + (if nx i f = i then 0 else oN (nx i f))
      rw [if_neg c]
def ShR (d next orders : Nat → Int32) : Prop := DR d ∧ ∀ j, j < 141 → (∀ g, g < 6 → next (j * 6 + g) = nI (nx j g)) ∧ orders j = nI (oN j)
theorem m_init_loop {d : Nat → Int32} (hD : DR d) (n : Nat) : ∀ t, t ≤ 141 → ∀ next orders : Nat → Int32, (∀ j, t ≤ j → j < 141 → (∀ g, g < 6 → next (j * 6 + g) = nI (nx j g)) ∧ orders j = nI (oN j)) → ∃ next' orders', f_X6_init_b48 (n + t + 1) (nI t + (-1)) d next orders = some (d, next', orders') ∧ ShR d next' orders' := by
  intro t
  induction t with
  | zero =>
    intro _ next orders h
    rw [f_X6_init_b48_s, if_pos (by decide)]
    exact ⟨next, orders, rfl, hD, fun j hj => h j (by omega) hj⟩
  | succ t ih =>
    intro ht next orders h
    rw [show n + (t + 1) + 1 = n + t + 1 + 1 by omega, pk_m1, f_X6_init_b48_s, if_neg (m_nneg (by omega))]
    obtain ⟨next', g1, g2, g3⟩ := m_link_loop hD (i := t) (by omega) (orders := orders) (fun j hj hj' => (h j (by omega) hj').2) 1017 6 0 next (by omega) (fun g hg => absurd hg (by omega))
    have g1' : f_X6_linkAndCount d next orders (nI t) = some (next', upd orders t (nI (oN t))) := g1
    rw [g1', Option.bind_some]
    refine ih (by omega) next' _ ?_
    intro j hj hj'
    by_cases c : j = t
    · subst c
      exact ⟨g2, upd_at⟩
    · obtain ⟨a, b⟩ := h j (by omega) hj'
      refine ⟨?_, (upd_ne (f := orders) c).trans b⟩
      intro g hg
      rw [g3 _ (by omega)]
      exact a g hg
theorem m_sheets : ∃ o, f_X6_init = some o ∧ ShR o.1 o.2.1 o.2.2 := by
  obtain ⟨d, h, hD⟩ := m_list
  unfold f_X6_init
  rw [h, Option.bind_some]
  obtain ⟨nx', or', g1, g2⟩ := m_init_loop hD 882 141 (by omega) (fun _ => 0) (fun _ => 0) (fun j hj hj' => absurd hj (by omega))
  exact ⟨_, g1, g2⟩
/-! places -/
theorem m_tenTo5 : ∀ k, k < 6 → f_X12_tenTo ((5 : Int32) - nI k) = some (nI (10 ^ (5 - k))) := by decide +kernel
theorem m_pOf_step (mo : Nat → Int32) (F : Nat) (d x : Int32) {k : Nat} (hk : k < 6) : f_X12_placeOf_b4 mo (F + 1) d x (nI k) = f_X12_placeOf_b4 mo F d ((mo k + 1) * x + dgt d (6 - k)) (nI k + (-1)) := by
  rw [f_X12_placeOf_b4_s, if_neg (m_nneg (by omega)), m_chk hk (by omega), m_fig hk, Option.bind_some, m_cl (by omega)]
theorem m_placeOf {mo : Nat → Int32} (hm : MostR mo) {n : Nat} (hn : n < 2 ^ 31) : f_X12_placeOf mo (nI n) = some (nI (dN n 6 + 2 * (dN n 5 + 2 * (dN n 4 + 2 * (dN n 3 + 7 * (dN n 2 + 3 * dN n 1)))))) := by
  obtain ⟨m0, m1, m2, m3, m4, m5⟩ := hm
  show f_X12_placeOf_b4 mo (1017 + 1 + 1 + 1 + 1 + 1 + 1 + 1) (nI n) 0 (nI 5) = _
  rw [m_pOf_step mo _ _ _ (k := 5) (by omega), show nI 5 + (-1) = nI 4 from rfl, m_pOf_step mo _ _ _ (k := 4) (by omega), show nI 4 + (-1) = nI 3 from rfl, m_pOf_step mo _ _ _ (k := 3) (by omega), show nI 3 + (-1) = nI 2 from rfl, m_pOf_step mo _ _ _ (k := 2) (by omega), show nI 2 + (-1) = nI 1 from rfl, m_pOf_step mo _ _ _ (k := 1) (by omega), show nI 1 + (-1) = nI 0 from rfl, m_pOf_step mo _ _ _ (k := 0) (by omega), f_X12_placeOf_b4_s, if_pos (by decide), m0, m1, m2, m3, m4, m5]
  simp only [show 6 - 5 = 1 from rfl, show 6 - 4 = 2 from rfl, show 6 - 3 = 3 from rfl, show 6 - 2 = 4 from rfl, show 6 - 1 = 5 from rfl, show 6 - 0 = 6 from rfl, show (1 : Int32) + 1 = nI 2 from rfl, show (2 : Int32) + 1 = nI 3 from rfl, show (6 : Int32) + 1 = nI 7 from rfl]
  rw [m_dgt hn (by omega) (by omega), m_dgt hn (by omega) (by omega), m_dgt hn (by omega) (by omega), m_dgt hn (by omega) (by omega), m_dgt hn (by omega) (by omega), m_dgt hn (by omega) (by omega)]
  rw [Int32.mul_zero, Int32.zero_add]
  simp only [pk_mul, nI_add]
  congr 2
  omega
theorem m_placeA {mo : Nat → Int32} (hm : MostR mo) {v : Nat} (hv : v < 504) : f_X12_placeOf mo (nI (dA v)) = some (nI v) := by
  obtain ⟨a, b⟩ := t_dA v hv
  rw [m_placeOf hm (by omega), a]
theorem m_dAt_step {mo : Nat → Int32} {k mk : Nat} (hk : k < 6) (hmk : mk < 10) (e : mo k = nI mk) (F x v : Nat) (hv : v < 504) : f_X12_drawnAt_b7 mo (F + 1) (nI x) (nI v) (nI k) = f_X12_drawnAt_b7 mo F (nI (x + v % (mk + 1) * 10 ^ (5 - k))) (nI (v / (mk + 1))) (nI (k + 1)) := by
  have z : ∀ {α : Type} (q : Option α), nz (nI (mk + 1)) q = q := fun q => if_neg (m_nz (by omega) (by omega))
  rw [f_X12_drawnAt_b7_s, if_neg (by rw [l6, m_le (by omega) (by omega)]; omega), m_chk hk (by omega), m_cl (by omega), e, nI_1, z, m_tenTo5 k hk, Option.bind_some, m_chk hk (by omega), z, pk_rem (by omega) (by omega) (by omega), pk_div (by omega) (by omega) (by omega), pk_mul, nI_add, nI_1]
theorem m_drawnAt {mo : Nat → Int32} (hm : MostR mo) {v : Nat} (hv : v < 504) : f_X12_drawnAt mo (nI v) = some (nI (dA v)) := by
  obtain ⟨m0, m1, m2, m3, m4, m5⟩ := hm
  show f_X12_drawnAt_b7 mo (1017 + 1 + 1 + 1 + 1 + 1 + 1 + 1) (nI 0) (nI v) (nI 0) = _
  rw [m_dAt_step (k := 0) (mk := 1) (by omega) (by omega) m0 _ _ _ hv, m_dAt_step (k := 1) (mk := 1) (by omega) (by omega) m1 _ _ _ (by omega), m_dAt_step (k := 2) (mk := 1) (by omega) (by omega) m2 _ _ _ (by omega), m_dAt_step (k := 3) (mk := 6) (by omega) (by omega) m3 _ _ _ (by omega), m_dAt_step (k := 4) (mk := 2) (by omega) (by omega) m4 _ _ _ (by omega), m_dAt_step (k := 5) (mk := 2) (by omega) (by omega) m5 _ _ _ (by omega), f_X12_drawnAt_b7_s, if_pos (by decide)]
  simp only [dA, Nat.div_div_eq_div_mul]
  congr 2
  simp
