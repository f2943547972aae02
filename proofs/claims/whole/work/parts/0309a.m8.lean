/-! ===== pure part 8: a die is rolled ===== -/
/-- how a die can lie -/
def lieOk (l : Nat) : Bool := decide (1 ≤ l / 10) && (decide (l / 10 ≤ 6) && (decide (1 ≤ l % 10) && (decide (l % 10 ≤ 6) && (decide (l % 10 ≠ l / 10) && decide (l % 10 + l / 10 ≠ 7)))))
theorem m_lie_small : ∀ n, n < 70 → f_X1_canLie (nI n) = some (bo (lieOk n)) ∧ f_X12_isLying (nI n) = some (bo (lieOk n)) := by decide +kernel
theorem lieOk_lt {n : Nat} (h : lieOk n = true) : n < 70 := by
  unfold lieOk at h
  simp only [Bool.and_eq_true, decide_eq_true_eq] at h
  omega
theorem m_canLie (n : Nat) (hn : n < 2 ^ 31) : f_X1_canLie (nI n) = some (bo (lieOk n)) := by
  by_cases h : n < 70
  · exact (m_lie_small n h).1
  · unfold f_X1_canLie
    rw [l10, pk_div hn (by omega) (by omega), m_isWithin, Option.bind_some, if_neg (show ¬ ((1 : Int32) ≤ nI (n / 10) ∧ nI (n / 10) ≤ 6) by rw [l1, l6, m_rng (by omega) (by omega) (by omega)]; omega), i00]
    cases e : lieOk n with
    | false => rfl
    | true => exact absurd (lieOk_lt e) h
theorem m_isLying (n : Nat) (hn : n < 2 ^ 31) : f_X12_isLying (nI n) = some (bo (lieOk n)) := by
  by_cases h : n < 70
  · exact (m_lie_small n h).2
  · unfold f_X12_isLying
    rw [m_in32 (a := 11) (b := 66) (lo := 11) (hi := 66) rfl rfl, Option.bind_some, if_neg (show ¬ ((11 : Int32) ≤ nI n ∧ nI n ≤ 66) by rw [show (11 : Int32) = nI 11 from rfl, l66, m_rng (by omega) (by omega) (by omega)]; omega), i00]
    cases e : lieOk n with
    | false => rfl
    | true => exact absurd (lieOk_lt e) h
theorem m_div10neg {x : Int32} (h : x.toInt < 0) : (x / 10).toInt ≤ 0 := by
  rw [Int32.toInt_div_of_ne_right _ _ (by decide), show (10 : Int32).toInt = 10 by decide]
  obtain ⟨k, hk⟩ : ∃ k : Nat, x.toInt = -(k : Int) := ⟨x.toInt.natAbs, by omega⟩
  rw [hk, Int.neg_tdiv]
  have : 0 ≤ (k : Int).tdiv 10 := Int.tdiv_nonneg (by omega) (by omega)
  omega
theorem m_lieX (x : Int32) : ∃ c : Bool, f_X1_canLie x = some (bo c) ∧ f_X12_isLying x = some (bo c) ∧ (c = true → ∃ l : Nat, lieOk l = true ∧ x = nI l) := by
  rcases m_sgn x with h | ⟨n, hn, rfl⟩
  · refine ⟨false, ?_, ?_, fun q => absurd q (by decide)⟩
    · unfold f_X1_canLie
      rw [m_isWithin, if_neg (fun q => by have := m_div10neg h; have := q.1; rw [Int32.le_iff_toInt_le, show (1 : Int32).toInt = 1 by decide] at this; omega), Option.bind_some, i00]
      rfl
    · unfold f_X12_isLying
      rw [m_in32 (a := 11) (b := 66) (lo := 11) (hi := 66) rfl rfl, if_neg (fun q => m_neg h 11 (by omega) q.1), Option.bind_some, i00]
      rfl
  · exact ⟨lieOk n, m_canLie n hn, m_isLying n hn, fun q => ⟨n, q, rfl⟩⟩
/-- rolled by a way -/
def rolN (l w : Nat) : Nat := ((f_X1_rolled (nI l) (nI w)).getD 0).toNatClampNeg
theorem m_rolled_all : ∀ l, l < 70 → lieOk l = true → ∀ w, w < 4 → f_X1_rolled (nI l) (nI w) = some (nI (rolN l w)) ∧ f_X12_rolled (nI l) (nI w) = some (nI (rolN l w)) ∧ lieOk (rolN l w) = true := by decide +kernel
theorem m_rolled {l w : Nat} (h : lieOk l = true) (hw : w < 4) : f_X1_rolled (nI l) (nI w) = some (nI (rolN l w)) ∧ f_X12_rolled (nI l) (nI w) = some (nI (rolN l w)) ∧ lieOk (rolN l w) = true := m_rolled_all l (lieOk_lt h) h w hw
/-- behind the first e of the k ways of a row -/
def rolR (l r k : Nat) : Nat → Nat
  | 0 => l
  | e + 1 => rolN (rolR l r k e) (r / 10 ^ (k - (e + 1)) % 10)
theorem rolR_ok {l r k : Nat} (hl : lieOk l = true) (h : okR r k) : ∀ e, e ≤ k → lieOk (rolR l r k e) = true := by
  intro e
  induction e with
  | zero => intro _; exact hl
  | succ e ih => intro he; exact (m_rolled (ih (by omega)) (h.2.2 _ (by omega))).2.2
/-- what is on top behind all of them -/
def topR (l r k : Nat) : Nat := rolR l r k k / 10
/-- j figures are still to be looked at; those ahead of the row's own are passed over -/
theorem m_top8 {l r k : Nat} (hl : lieOk l = true) (h : okR r k) (m : Nat) : ∀ j, j ≤ 6 → f_X1_topAfter_b8 (m + j + 1) (nI r) (nI (rolR l r k (k - j))) (nI (10 ^ j / 10)) (nI (6 - j)) = some (nI (topR l r k)) := by
  have hr := h.lt
  intro j
  induction j with
  | zero =>
    intro _
    have := lieOk_lt (rolR_ok hl h k (Nat.le_refl k))
    rw [f_X1_topAfter_b8_s, if_pos (by decide), l10, show k - 0 = k from rfl, pk_div (by omega) (by omega) (by omega)]
    rfl
  | succ j ih =>
    intro hj
    have hp := p1 j
    have hp6 := p6 (show j ≤ 6 by omega)
    have e1 : 10 ^ (j + 1) / 10 = 10 ^ j := by rw [Nat.pow_succ]; omega
    have hdl : r / 10 ^ j < 2 ^ 31 := Nat.lt_of_le_of_lt (Nat.div_le_self _ _) (by omega)
    have hn : ¬ nI (10 ^ j) = 0 := by rw [l0, m_eq (by omega) (by omega)]; omega
    have q := ih (by omega)
    rw [show m + (j + 1) + 1 = m + j + 1 + 1 by omega, f_X1_topAfter_b8_s, e1, if_neg (show ¬ (6 : Int32) ≤ nI (6 - (j + 1)) by rw [l6, m_le (by omega) (by omega)]; omega), if_neg (show ¬ nI (10 ^ j) ≤ 0 by rw [l0, m_le (by omega) (by omega)]; omega)]
    unfold nz
    rw [if_neg hn, if_neg hn, nI_1, show 6 - (j + 1) + 1 = 6 - j by omega, l10, pk_div (a := r) (d := 10 ^ j) (by omega) (by omega) (by omega), pk_rem hdl (by omega) (by omega), pk_div (a := 10 ^ j) (d := 10) (by omega) (by omega) (by omega)]
    by_cases c : j < k
    · have hg := h.ge10 c
      rw [if_neg (show ¬ nI (r / 10 ^ j) < nI 10 by rw [m_lt (by omega) (by omega)]; omega), (m_rolled (rolR_ok hl h (k - (j + 1)) (by omega)) (h.2.2 j (by omega))).1, Option.bind_some]
      have e2 : rolN (rolR l r k (k - (j + 1))) (r / 10 ^ j % 10) = rolR l r k (k - j) := by
        rw [show k - j = k - (j + 1) + 1 by omega]
        show _ = rolN (rolR l r k (k - (j + 1))) (r / 10 ^ (k - (k - (j + 1) + 1)) % 10)
        rw [show k - (k - (j + 1) + 1) = j by omega]
      rw [e2]
      exact q
    · have hk1 := h.2.1
      have hle : r / 10 ^ j ≤ r / 10 ^ k := Nat.div_le_div_left (Nat.pow_le_pow_right (by omega) (by omega)) (p1 k)
      rw [if_pos (show nI (r / 10 ^ j) < nI 10 by rw [m_lt (by omega) (by omega)]; omega), show k - (j + 1) = k - j by omega]
      exact q
theorem m_topAfter {l r k : Nat} (hl : lieOk l = true) (h : okR r k) : f_X1_topAfter (nI l) (nI r) = some (nI (topR l r k)) := by
  have q := m_top8 hl h (1023 - 6) 6 (Nat.le_refl 6)
  have h6 := h.1
  rw [show 1023 - 6 + 6 + 1 = FU by unfold FU; omega, show k - 6 = 0 by omega] at q
  exact q
theorem m_waysOf {r k : Nat} (h : okR r k) (m : Nat) : ∀ j, j ≤ k → f_X12_waysOf_b4 (m + j + 1) (nI (k - j)) (nI (r / 10 ^ (k - j))) = some (nI k) := by
  have hr := h.lt
  have h6 := h.1
  intro j
  induction j with
  | zero =>
    intro _
    rw [f_X12_waysOf_b4_s, show k - 0 = k from rfl, h.2.1, if_pos (by decide)]
  | succ j ih =>
    intro hj
    have hg := h.ge10 (show k - (j + 1) < k by omega)
    have hdl : r / 10 ^ (k - (j + 1)) < 2 ^ 31 := Nat.lt_of_le_of_lt (Nat.div_le_self _ _) (by omega)
    rw [show m + (j + 1) + 1 = m + j + 1 + 1 by omega, f_X12_waysOf_b4_s, if_neg (by rw [l9, m_le (by omega) (by omega)]; omega), nI_1, l10, pk_div (by omega) (by omega) (by omega), dv_s, show k - (j + 1) + 1 = k - j by omega]
    exact ih (by omega)
theorem m_tenTo : ∀ j, j < 6 → f_X12_tenTo (nI j) = some (nI (10 ^ j)) := by decide +kernel
theorem m_by9 {l r k : Nat} (hl : lieOk l = true) (h : okR r k) (m : Nat) : ∀ j, j ≤ k → f_X12_topBy_b9 (m + j + 1) (nI r) (nI (rolR l r k (k - j))) (nI j - 1) = some (nI (topR l r k)) := by
  have hr := h.lt
  have h6 := h.1
  intro j
  induction j with
  | zero =>
    intro _
    have := lieOk_lt (rolR_ok hl h k (Nat.le_refl k))
    rw [f_X12_topBy_b9_s, if_pos (by decide), l10, show k - 0 = k from rfl, pk_div (by omega) (by omega) (by omega)]
    rfl
  | succ j ih =>
    intro hj
    have hp := p1 j
    have hp6 := p6 (show j ≤ 6 by omega)
    have hdl : r / 10 ^ j < 2 ^ 31 := Nat.lt_of_le_of_lt (Nat.div_le_self _ _) (by omega)
    rw [show m + (j + 1) + 1 = m + j + 1 + 1 by omega, f_X12_topBy_b9_s, nI_pred, if_neg (nI_pos (by omega)), m_tenTo j (by omega), Option.bind_some]
    unfold nz
    rw [if_neg (by rw [l0, m_eq (by omega) (by omega)]; omega), l10, pk_div (by omega) (by omega) (by omega), pk_rem hdl (by omega) (by omega), (m_rolled (rolR_ok hl h (k - (j + 1)) (by omega)) (h.2.2 j (by omega))).2.1, Option.bind_some]
    have e2 : rolN (rolR l r k (k - (j + 1))) (r / 10 ^ j % 10) = rolR l r k (k - j) := by
      rw [show k - j = k - (j + 1) + 1 by omega]
      show _ = rolN (rolR l r k (k - (j + 1))) (r / 10 ^ (k - (k - (j + 1) + 1)) % 10)
      rw [show k - (k - (j + 1) + 1) = j by omega]
    rw [e2, show nI j + (-1) = nI j - 1 from (Int32.sub_eq_add_neg _ _).symm]
    exact ih (by omega)
theorem m_topBy {l r k : Nat} (hl : lieOk l = true) (h : okR r k) : f_X12_topBy (nI l) (nI r) = some (nI (topR l r k)) := by
  have h6 := h.1
  have q := m_waysOf h (1023 - k) k (Nat.le_refl k)
  rw [show 1023 - k + k + 1 = FU by unfold FU; omega, show k - k = 0 by omega, Nat.pow_zero, Nat.div_one] at q
  have q2 := m_by9 hl h (1023 - k) k (Nat.le_refl k)
  rw [show 1023 - k + k + 1 = FU by unfold FU; omega, show k - k = 0 by omega] at q2
  unfold f_X12_topBy f_X12_waysOf
  rw [show (0 : Int32) = nI 0 from rfl, q, Option.bind_some]
  exact q2
theorem topR_rng {l r k : Nat} (hl : lieOk l = true) (h : okR r k) : 1 ≤ topR l r k ∧ topR l r k ≤ 6 := by
  have q := rolR_ok hl h k (Nat.le_refl k)
  unfold lieOk at q
  simp only [Bool.and_eq_true, decide_eq_true_eq] at q
  exact ⟨q.1, q.2.1⟩
theorem m_roll (x1 x2 : Int32) : ∃ oc om, f_X11_roll x1 x2 = some oc ∧ f_X12_roll x1 x2 = some om ∧ oc = om := by
  unfold f_X11_roll f_X12_roll
  obtain ⟨c, e1, e2, e3⟩ := m_lieX x1
  rw [e1, e2, Option.bind_some, Option.bind_some]
  cases c with
  | false => exact ⟨_, _, rfl, rfl, rfl⟩
  | true =>
    obtain ⟨l, hl, rfl⟩ := e3 rfl
    rw [show bo true = 1 from rfl, i10, i10]
    obtain ⟨c, q1, q2, q3⟩ := m_isRowX x2
    rw [q1, q2, Option.bind_some, Option.bind_some]
    cases c with
    | false => exact ⟨_, _, rfl, rfl, rfl⟩
    | true =>
      obtain ⟨r, k, hr, rfl⟩ := q3 rfl
      rw [show bo true = 1 from rfl, i10, i10, m_topAfter hl hr, m_topBy hl hr]
      exact ⟨_, _, rfl, rfl, rfl⟩
