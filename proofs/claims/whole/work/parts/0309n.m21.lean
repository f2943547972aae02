/-! ===== pure part 21: the sheets, list and find ===== -/
theorem m_sM : ∀ f, f ≤ 6 → 1 ≤ f → sM f = nI (mN f) ∧ mN f < 10 := by decide
theorem m_sU : ∀ f, f ≤ 6 → 1 ≤ f → sU f = nI (10 ^ (f - 1)) := by decide
theorem m_ndf : ∀ f, f ≤ 6 → 1 ≤ f → f ≠ 6 → 1 ≤ ndf f ∧ ndf f ≤ 6 := by decide
theorem m_hasN' {n f : Nat} (hn : n < 2 ^ 31) (h1 : 1 ≤ f) (h6 : f ≤ 6) : hasN (nI n) f ↔ (f = 6 ∨ dN n (ndf f) ≠ 0) := by
  unfold hasN
  by_cases c : f = 6
  · exact ⟨fun _ => Or.inl c, fun _ => Or.inl c⟩
  · obtain ⟨a1, a2⟩ := m_ndf f h6 h1 c
    have := dN_lt n (ndf f)
    rw [m_dgt hn a1 a2, l0, m_le (by omega) (by omega)]
    omega
theorem m_canN {n f : Nat} (hn : n < 2 ^ 31) (h1 : 1 ≤ f) (h6 : f ≤ 6) : canD (nI n) f ↔ canN n f = true := by
  have := dN_lt n f
  obtain ⟨e, e2⟩ := m_sM f h6 h1
  unfold canD canN
  rw [m_hasN' hn h1 h6, m_dgt hn h1 h6, e, m_lt (by omega) (by omega)]
  simp only [Bool.and_eq_true, Bool.or_eq_true, decide_eq_true_eq]
theorem m_okN' {n : Nat} : okN n = true ↔ ∀ f, 1 ≤ f → f ≤ 6 → dN n f ≤ mN f ∧ (dN n f = 0 ∨ (f = 6 ∨ dN n (ndf f) ≠ 0)) := by
  unfold okN
  simp only [List.all_eq_true, List.mem_range, Bool.and_eq_true, Bool.or_eq_true, decide_eq_true_eq]
  constructor
  · intro h f h1 h6
    rcases h f (by omega) with c | c
    · exact absurd c (by omega)
    · exact ⟨c.1, by rcases c.2 with (q | q) | q; exact Or.inl q; exact Or.inr (Or.inl q); exact Or.inr (Or.inr q)⟩
  · intro h f hf
    by_cases c : f = 0
    · exact Or.inl c
    · obtain ⟨a, b⟩ := h f (by omega) (by omega)
      exact Or.inr ⟨a, by rcases b with q | q | q; exact Or.inl (Or.inl q); exact Or.inl (Or.inr q); exact Or.inr q⟩
theorem m_okN {n : Nat} (hn : n < 2 ^ 31) : okB (nI n) ↔ n ≤ 111622 ∧ okN n = true := by
  unfold okB okF
  rw [l0, l111622, m_le (by omega) hn, m_le hn (by omega), m_okN']
  have key : ∀ f, 1 ≤ f → f ≤ 6 → ((¬ (sM f < dgt (nI n) f) ∧ (dgt (nI n) f = nI 0 ∨ hasN (nI n) f)) ↔ (dN n f ≤ mN f ∧ (dN n f = 0 ∨ (f = 6 ∨ dN n (ndf f) ≠ 0)))) := by
    intro f h1 h6
    have := dN_lt n f
    obtain ⟨e, e2⟩ := m_sM f h6 h1
    rw [m_hasN' hn h1 h6, m_dgt hn h1 h6, e, m_lt (by omega) (by omega), m_eq (by omega) (by omega)]
    omega
  constructor
  · rintro ⟨⟨_, a⟩, b⟩
    exact ⟨a, fun f h1 h6 => (key f h1 h6).mp (b f h1 h6)⟩
  · rintro ⟨a, b⟩
    exact ⟨⟨by omega, a⟩, fun f h1 h6 => (key f h1 h6).mpr (b f h1 h6)⟩
theorem b_lt : ∀ j i, i < j → j < 141 → bN i < bN j := by
  intro j
  induction j with
  | zero => intro i h; exact absurd h (by omega)
  | succ j ih =>
    intro i h hj
    have a := t_inc j (by omega)
    by_cases c : i = j
    · subst c; exact a
    · have := ih i (by omega) (by omega); omega
theorem b_31 {i : Nat} (h : i < 141) : bN i < 2 ^ 31 := by have := t_bmax i h; omega
/-- the sheets' list -/
def DR (d : Nat → Int32) : Prop := ∀ i, i < 141 → d i = nI (bN i)
theorem m_sdraw {i f : Nat} (hi : i < 141) (hf : f < 6) : f_X0_draw (nI (bN i)) (nI (f + 1)) = some (nI (bN (nx i f))) := by
  rcases t_can i hi f hf with ⟨a, _, c⟩ | ⟨a, c⟩
  · have hc := (m_canN (b_31 hi) (f := f + 1) (by omega) (by omega)).mpr a
    rcases m_draw (f := f + 1) (by omega) (by omega) (nI (bN i)) with ⟨_, q⟩ | ⟨q, _⟩
    · rw [q, m_sU (f + 1) (by omega) (by omega), nI_add, c, Nat.add_sub_cancel]
    · exact absurd hc q
  · have hc : ¬ canD (nI (bN i)) (f + 1) := fun h => by rw [m_canN (b_31 hi) (by omega) (by omega), a] at h; exact absurd h (by decide)
    rcases m_draw (f := f + 1) (by omega) (by omega) (nI (bN i)) with ⟨q, _⟩ | ⟨_, q⟩
    · exact absurd q hc
    · rw [q, c]
theorem m_figAt : ∀ v, v < 504 → f_X6_figuresAt (nI v) = some (nI (fgN v)) ∧ fgN v ≤ 111622 := by decide +kernel
theorem m_list_loop (n : Nat) : ∀ m v, v + m = 504 → ∀ d : Nat → Int32, (∀ i, i < cN v → d i = nI (bN i)) → ∃ d', f_X6_listBeetles_b4 (n + m + 1) (nI (cN v)) (nI v) d = some d' ∧ DR d' := by
  intro m
  induction m with
  | zero =>
    intro v hv d h
    have e : v = 504 := by omega
    subst e
    rw [f_X6_listBeetles_b4_s, if_pos (by decide)]
    rw [t_c0.2] at h
    exact ⟨d, rfl, h⟩
  | succ m ih =>
    intro v hv d h
    have hl := t_cl v (by omega)
    obtain ⟨g1, g2⟩ := m_figAt v (by omega)
    rw [show n + (m + 1) + 1 = n + m + 1 + 1 by omega, f_X6_listBeetles_b4_s, if_neg (show ¬ (504 : Int32) ≤ nI v by rw [show (504 : Int32) = nI 504 from rfl, m_le (by omega) (by omega)]; omega), if_neg (show ¬ (141 : Int32) ≤ nI (cN v) by rw [show (141 : Int32) = nI 141 from rfl, m_le (by omega) (by omega)]; omega), g1, Option.bind_some]
    have hk := m_okN (n := fgN v) (by omega)
    rcases t_c v (by omega) with ⟨a, b, c, e⟩ | ⟨a, c⟩
    · have : f_X0_canBe (nI (fgN v)) = some 1 := by
        rcases m_canBe (nI (fgN v)) with ⟨_, q⟩ | ⟨q, _⟩
        · exact q
        · exact absurd (hk.mpr ⟨g2, a⟩) q
      rw [this, Option.bind_some, i10, m_chk hl (by omega), m_cl (by omega), nI_1, nI_1, ← c]
      refine ih (v + 1) (by omega) _ ?_
      intro i hi
      by_cases q : i = cN v
      · subst q; rw [upd_at, b]
      · rw [upd_ne q]; exact h i (by omega)
    · have : f_X0_canBe (nI (fgN v)) = some 0 := by
        rcases m_canBe (nI (fgN v)) with ⟨q, _⟩ | ⟨_, q⟩
        · have := (hk.mp q).2; rw [a] at this; exact absurd this (by decide)
        · exact q
      rw [this, Option.bind_some, i00, nI_1, ← c]
      exact ih (v + 1) (by omega) d (by rw [c]; exact h)
theorem m_list : ∃ d, f_X6_listBeetles (fun _ => 0) = some d ∧ DR d := by
  have h := m_list_loop 519 504 0 (by omega) (fun _ => 0) (fun i hi => by rw [t_c0.1] at hi; exact absurd hi (by omega))
  rw [t_c0.1] at h
  exact h
theorem m_find_loop {d : Nat → Int32} (hD : DR d) (x : Int32) : ∀ M m lo hi c F, m ≤ M → m + 1 ≤ F → lo + m = hi → hi ≤ 140 → c + m ≤ 140 → (∀ i, i < lo → nI (bN i) < x) → (hi < 140 → x ≤ nI (bN hi)) → (∃ k, k < 141 ∧ x = nI (bN k) ∧ f_X6_find_b9 d F x (nI lo) (nI hi) (nI c) = some (nI k)) ∨ ((∀ i, i < 141 → x ≠ nI (bN i)) ∧ f_X6_find_b9 d F x (nI lo) (nI hi) (nI c) = some (-6)) := by
  intro M
  induction M with
  | zero =>
    intro m lo hi c F hm hF h1 h2 h3 h4 h5
    have e : lo = hi := by omega
    subst e
    obtain ⟨F, rfl⟩ : ∃ z, F = z + 1 := ⟨F - 1, by omega⟩
    rw [f_X6_find_b9_s, if_neg (show ¬ (141 : Int32) ≤ nI c by rw [show (141 : Int32) = nI 141 from rfl, m_le (by omega) (by omega)]; omega), if_pos (show nI lo ≤ nI lo by rw [m_le (by omega) (by omega)]; omega)]
    unfold f_X6_find_b57
    rw [m_chk (by omega) (by omega), m_cl (by omega), hD lo (by omega)]
    by_cases q : nI (bN lo) = x
    · rw [if_pos q]; exact Or.inl ⟨lo, by omega, q.symm, rfl⟩
    · rw [if_neg q]
      refine Or.inr ⟨?_, rfl⟩
      intro i hi e
      by_cases c1 : i < lo
      · have := h4 i c1; rw [e] at this; exact Int32.lt_irrefl this
      · by_cases c2 : i = lo
        · subst c2; exact q e.symm
        · have a := h5 (by omega)
          rw [e, m_le (b_31 hi) (b_31 (by omega))] at a
          have := b_lt i lo (by omega) hi
          omega
  | succ M ih =>
    intro m lo hi c F hm hF h1 h2 h3 h4 h5
    by_cases z : m = 0
    · exact ih m lo hi c F (by omega) hF h1 h2 h3 h4 h5
    · obtain ⟨F, rfl⟩ : ∃ z, F = z + 1 := ⟨F - 1, by omega⟩
      rw [f_X6_find_b9_s, if_neg (show ¬ (141 : Int32) ≤ nI c by rw [show (141 : Int32) = nI 141 from rfl, m_le (by omega) (by omega)]; omega), if_neg (show ¬ nI hi ≤ nI lo by rw [m_le (by omega) (by omega)]; omega), nI_add, l2, pk_div (by omega) (by omega) (by omega), m_chk (by omega) (by omega), m_cl (by omega), hD _ (by omega), nI_1, nI_1]
      by_cases q : x ≤ nI (bN ((lo + hi) / 2))
      · rw [if_pos q]
        exact ih ((lo + hi) / 2 - lo) lo ((lo + hi) / 2) (c + 1) F (by omega) (by omega) (by omega) (by omega) (by omega) h4 (fun _ => q)
      · rw [if_neg q]
        refine ih (hi - ((lo + hi) / 2 + 1)) ((lo + hi) / 2 + 1) hi (c + 1) F (by omega) (by omega) (by omega) (by omega) (by omega) ?_ h5
        intro i hi'
        have q' : nI (bN ((lo + hi) / 2)) < x := by
          by_cases q2 : nI (bN ((lo + hi) / 2)) < x
          · exact q2
          · exact absurd (m_nlt.mp q2) q
        by_cases c1 : i = (lo + hi) / 2
        · rw [c1]; exact q'
        · have := b_lt ((lo + hi) / 2) i (by omega) (by omega)
          exact Int32.lt_trans (by rw [m_lt (b_31 (by omega)) (b_31 (by omega))]; exact this) q'
theorem m_find {d : Nat → Int32} (hD : DR d) (x : Int32) : (∃ k, k < 141 ∧ x = nI (bN k) ∧ f_X6_find d x = some (nI k)) ∨ ((∀ i, i < 141 → x ≠ nI (bN i)) ∧ f_X6_find d x = some (-6)) :=
  m_find_loop hD x 140 140 0 140 0 1024 (by omega) (by omega) (by omega) (by omega) (by omega) (fun i hi => absurd hi (by omega)) (fun h => absurd h (by omega))
theorem m_findB {d : Nat → Int32} (hD : DR d) {k : Nat} (hk : k < 141) : f_X6_find d (nI (bN k)) = some (nI k) := by
  rcases m_find hD (nI (bN k)) with ⟨j, hj, e, h⟩ | ⟨h, _⟩
  · rw [m_eq (b_31 hk) (b_31 hj)] at e
    have : k = j := by
      rcases Nat.lt_trichotomy k j with c | c | c
      · have := b_lt j k c hj; omega
      · exact c
      · have := b_lt k j c hk; omega
    rw [h, this]
  · exact absurd rfl (h k hk)
theorem m_mem (x : Int32) : okB x ↔ ∃ k, k < 141 ∧ x = nI (bN k) := by
  constructor
  · intro h
    obtain ⟨n, hn, rfl⟩ := m_of (n := 111622) rfl h.1
    obtain ⟨_, h2⟩ := (m_okN (n := n) (by omega)).mp h
    rw [m_okN'] at h2
    have a1 := (h2 1 (by omega) (by omega)).1
    have a2 := (h2 2 (by omega) (by omega)).1
    have a3 := (h2 3 (by omega) (by omega)).1
    have a4 := (h2 4 (by omega) (by omega)).1
    have a5 := (h2 5 (by omega) (by omega)).1
    have a6 := (h2 6 (by omega) (by omega)).1
    simp only [dN, show mN 1 = 2 from rfl, show mN 2 = 2 from rfl, show mN 3 = 6 from rfl, show mN 4 = 1 from rfl, show mN 5 = 1 from rfl, show mN 6 = 1 from rfl, show (10 : Nat) ^ (1 - 1) = 1 from rfl, show (10 : Nat) ^ (2 - 1) = 10 from rfl, show (10 : Nat) ^ (3 - 1) = 100 from rfl, show (10 : Nat) ^ (4 - 1) = 1000 from rfl, show (10 : Nat) ^ (5 - 1) = 10000 from rfl, show (10 : Nat) ^ (6 - 1) = 100000 from rfl] at a1 a2 a3 a4 a5 a6
    have e := t_fg (n / 100000 % 10) (by omega) (n / 10000 % 10) (by omega) (n / 1000 % 10) (by omega) (n / 100 % 10) (by omega) (n / 10 % 10) (by omega) (n / 1 % 10) (by omega)
    have e2 : fgN (252 * (n / 100000 % 10) + 126 * (n / 10000 % 10) + 63 * (n / 1000 % 10) + 9 * (n / 100 % 10) + 3 * (n / 10 % 10) + n / 1 % 10) = n := by rw [e]; omega
    rcases t_c (252 * (n / 100000 % 10) + 126 * (n / 10000 % 10) + 63 * (n / 1000 % 10) + 9 * (n / 100 % 10) + 3 * (n / 10 % 10) + n / 1 % 10) (by omega) with ⟨_, b, _, c⟩ | ⟨b, _⟩
    · rw [e2] at b
      exact ⟨_, c, by rw [← b]⟩
    · rw [e2] at b
      have := ((m_okN (n := n) (by omega)).mp h).2
      rw [b] at this
      exact absurd this (by decide)
  · rintro ⟨k, hk, rfl⟩
    exact (m_okN (b_31 hk)).mpr ⟨t_bmax k hk, t_okb k hk⟩
