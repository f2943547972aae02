/-! ===== pure part 7: rows of ways ===== -/
def bo (b : Bool) : Int32 := match b with
  | true => 1
  | false => 0
theorem dv_s (r j : Nat) : r / 10 ^ j / 10 = r / 10 ^ (j + 1) := by rw [Nat.div_div_eq_div_mul, Nat.pow_succ]
theorem dv_s' (r j : Nat) : r / 10 / 10 ^ j = r / 10 ^ (j + 1) := by rw [Nat.div_div_eq_div_mul, Nat.mul_comm, Nat.pow_succ]
theorem p1 (i : Nat) : 1 ≤ 10 ^ i := Nat.pos_of_ne_zero (by intro h; have := Nat.pow_eq_zero.mp h; omega)
theorem okR.big {r k : Nat} (h : okR r k) : ∀ i j, i + j = k → 10 ^ i ≤ r / 10 ^ j ∧ r / 10 ^ j < 2 * 10 ^ i := by
  intro i
  induction i with
  | zero =>
    intro j hj
    have e : j = k := by omega
    rw [e, h.2.1]
    omega
  | succ i ih =>
    intro j hj
    have q := ih (j + 1) (by omega)
    rw [← dv_s] at q
    rw [Nat.pow_succ]
    omega
theorem p6 {i : Nat} (h : i ≤ 6) : 10 ^ i ≤ 1000000 := Nat.le_trans (Nat.pow_le_pow_right (by omega) h) (by decide)
theorem okR.lt {r k : Nat} (h : okR r k) : r < 2000000 := by
  have q := h.big k 0 (by omega)
  have := p6 h.1
  rw [Nat.pow_zero, Nat.div_one] at q
  omega
theorem okR.ge10 {r k j : Nat} (h : okR r k) (hj : j < k) : 10 ≤ r / 10 ^ j := by
  obtain ⟨i, hi⟩ : ∃ i, k = i + 1 + j := ⟨k - j - 1, by omega⟩
  have q := h.big (i + 1) j (by omega)
  rw [Nat.pow_succ] at q
  have := p1 i
  omega
/-- is it a row, with at most k ways -/
def rowB : Nat → Nat → Bool
  | 0, n => n == 1
  | k + 1, n => if n < 10 then n == 1 else decide (n % 10 < 4) && rowB k (n / 10)
theorem rowB_lt {n : Nat} (h : n < 10) (k : Nat) : rowB k n = (n == 1) := by
  cases k with
  | zero => rfl
  | succ k => unfold rowB; rw [if_pos h]
theorem rowB_ge {n : Nat} (h : ¬ n < 10) (k : Nat) : rowB (k + 1) n = (decide (n % 10 < 4) && rowB k (n / 10)) := by
  show (if n < 10 then n == 1 else decide (n % 10 < 4) && rowB k (n / 10)) = _
  rw [if_neg h]
theorem rowB_ok : ∀ (K n : Nat), rowB K n = true → ∃ k, k ≤ K ∧ n / 10 ^ k = 1 ∧ ∀ j, j < k → n / 10 ^ j % 10 < 4 := by
  intro K
  induction K with
  | zero =>
    intro n h
    have e : n = 1 := by simpa [rowB] using h
    exact ⟨0, Nat.le_refl _, by rw [e], fun j hj => by omega⟩
  | succ K ih =>
    intro n h
    by_cases c : n < 10
    · rw [rowB_lt c] at h
      have e : n = 1 := by simpa using h
      exact ⟨0, Nat.zero_le _, by rw [e], fun j hj => by omega⟩
    · rw [rowB_ge c] at h
      simp only [Bool.and_eq_true, decide_eq_true_eq] at h
      obtain ⟨k, h1, h2, h3⟩ := ih (n / 10) h.2
      refine ⟨k + 1, by omega, ?_, fun j hj => ?_⟩
      · rw [← dv_s']; exact h2
      · match j, hj with
        | 0, _ => rw [Nat.pow_zero, Nat.div_one]; exact h.1
        | j + 1, hj => rw [← dv_s']; exact h3 j (by omega)
theorem m_isRow_loop : ∀ (K n m : Nat), n < 2 ^ 31 → K ≤ 6 → f_X1_isRow_b16 (m + K + 1) (nI n) (nI (6 - K)) = some (bo (rowB K n)) := by
  have e1 : ∀ n : Nat, n < 2 ^ 31 → (if nI n = 1 then some (1 : Int32) else some 0) = some (bo (n == 1)) := by
    intro n hn
    by_cases c : n = 1
    · subst c; rfl
    · rw [if_neg (by rw [l1, m_eq hn (by omega)]; exact c), show (n == 1) = false from beq_eq_false_iff_ne.mpr c]; rfl
  intro K
  induction K with
  | zero =>
    intro n m hn _
    rw [f_X1_isRow_b16_s, if_pos (by decide), e1 n hn]
    rfl
  | succ K ih =>
    intro n m hn hK
    rw [show m + (K + 1) + 1 = m + K + 1 + 1 by omega, f_X1_isRow_b16_s, if_neg (by rw [l6, m_le (by omega) (by omega)]; omega), nI_1, show 6 - (K + 1) + 1 = 6 - K by omega]
    have hr : n % 10 < 10 := Nat.mod_lt _ (by omega)
    rw [e1 n hn, l10, pk_rem hn (by omega) (by omega), pk_div hn (by omega) (by omega), ih (n / 10) m (by omega) (by omega)]
    by_cases c : n < 10
    · rw [if_pos (by rw [m_lt (by omega) (by omega)]; exact c), rowB_lt c]
    · rw [if_neg (by rw [m_lt (by omega) (by omega)]; exact c), rowB_ge c]
      by_cases q : n % 10 ≤ 3
      · rw [if_pos (by rw [l3, m_le (by omega) (by omega)]; exact q), show decide (n % 10 < 4) = true from decide_eq_true (by omega), Bool.true_and]
      · rw [if_neg (by rw [l3, m_le (by omega) (by omega)]; exact q), show decide (n % 10 < 4) = false from decide_eq_false (by omega), Bool.false_and]
        rfl
theorem rowB6 : ∀ n, rowB 6 n = true → 1 ≤ n ∧ n ≤ 1333333 := by
  have step : ∀ (K M : Nat), (∀ n, rowB K n = true → 1 ≤ n ∧ n ≤ M) → 1 ≤ M → ∀ n, rowB (K + 1) n = true → 1 ≤ n ∧ n ≤ 10 * M + 3 := by
    intro K M h hM n hn
    by_cases c : n < 10
    · rw [rowB_lt c] at hn
      have e : n = 1 := by simpa using hn
      omega
    · rw [rowB_ge c] at hn
      simp only [Bool.and_eq_true, decide_eq_true_eq] at hn
      have := h (n / 10) hn.2
      omega
  have h0 : ∀ n, rowB 0 n = true → 1 ≤ n ∧ n ≤ 1 := by
    intro n h
    have e : n = 1 := by simpa [rowB] using h
    omega
  exact step 5 133333 (step 4 13333 (step 3 1333 (step 2 133 (step 1 13 (step 0 1 h0 (by omega)) (by omega)) (by omega)) (by omega)) (by omega)) (by omega)
theorem m_isRow (n : Nat) (hn : n < 2 ^ 31) : f_X1_isRow (nI n) = some (bo (rowB 6 n)) := by
  unfold f_X1_isRow
  rw [m_isWithin, Option.bind_some]
  by_cases h : 1 ≤ n ∧ n ≤ 1333333
  · rw [if_pos (show (1 : Int32) ≤ nI n ∧ nI n ≤ 1333333 by rw [l1, show (1333333 : Int32) = nI 1333333 from rfl, m_rng hn (by omega) (by omega)]; exact h), i10]
    exact m_isRow_loop 6 n 1017 hn (Nat.le_refl _)
  · rw [if_neg (show ¬ ((1 : Int32) ≤ nI n ∧ nI n ≤ 1333333) by rw [l1, show (1333333 : Int32) = nI 1333333 from rfl, m_rng hn (by omega) (by omega)]; exact h), i00]
    cases e : rowB 6 n with
    | false => rfl
    | true => exact absurd (rowB6 n e) h
theorem m_isRow0 : ∀ (j m n : Nat) (x3 : Int32), n < 2 ^ 31 → n < 10 ^ j → f_X12_isRow_b14 (m + j + 1) 0 (nI n) x3 = some 0 := by
  intro j
  induction j with
  | zero =>
    intro m n x3 hn h
    rw [f_X12_isRow_b14_s, if_pos (by rw [l9, m_le (by omega) (by omega)]; omega), i00]
  | succ j ih =>
    intro m n x3 hn h
    rw [show m + (j + 1) + 1 = m + j + 1 + 1 by omega, f_X12_isRow_b14_s]
    by_cases c : n ≤ 9
    · rw [if_pos (by rw [l9, m_le (by omega) (by omega)]; omega), i00]
    · rw [if_neg (by rw [l9, m_le (by omega) (by omega)]; omega), i00, l10, pk_div hn (by omega) (by omega)]
      exact ih m (n / 10) _ (by omega) (by rw [Nat.pow_succ] at h; omega)
theorem m_isRow_loop' : ∀ (j m n i : Nat), n < 2 ^ 31 → n < 10 ^ j → i + j ≤ 100 → f_X12_isRow_b14 (m + j + 1) 1 (nI n) (nI i) = some (bo (decide (i ≤ 6) && rowB (6 - i) n)) := by
  have base : ∀ (m n i : Nat), n ≤ 9 → i ≤ 100 → f_X12_isRow_b14 (m + 1) 1 (nI n) (nI i) = some (bo (decide (i ≤ 6) && rowB (6 - i) n)) := by
    intro m n i hn hi
    rw [f_X12_isRow_b14_s, if_pos (by rw [l9, m_le (by omega) (by omega)]; omega), i10, rowB_lt (by omega)]
    by_cases c1 : n = 1
    · subst c1
      rw [if_pos (by decide)]
      by_cases c2 : 6 < i
      · rw [if_pos (by rw [l6, m_lt (by omega) (by omega)]; exact c2), show decide (i ≤ 6) = false from decide_eq_false (by omega)]
        rfl
      · rw [if_neg (by rw [l6, m_lt (by omega) (by omega)]; exact c2), show decide (i ≤ 6) = true from decide_eq_true (by omega)]
        rfl
    · rw [if_neg (by rw [l1, m_eq (by omega) (by omega)]; exact c1), show (n == 1) = false from beq_eq_false_iff_ne.mpr c1, Bool.and_false]
      rfl
  intro j
  induction j with
  | zero =>
    intro m n i hn h hi
    exact base m n i (by omega) (by omega)
  | succ j ih =>
    intro m n i hn h hi
    by_cases c : n ≤ 9
    · exact base (m + (j + 1)) n i c (by omega)
    · rw [show m + (j + 1) + 1 = m + j + 1 + 1 by omega, f_X12_isRow_b14_s, if_neg (by rw [l9, m_le (by omega) (by omega)]; omega), i10, l10, pk_rem hn (by omega) (by omega), pk_div hn (by omega) (by omega), nI_1]
      have hr : n % 10 < 10 := Nat.mod_lt _ (by omega)
      have hj : n / 10 < 10 ^ j := by rw [Nat.pow_succ] at h; omega
      have key : (decide (i ≤ 6) && rowB (6 - i) n) = (decide (n % 10 < 4) && (decide (i + 1 ≤ 6) && rowB (6 - (i + 1)) (n / 10))) := by
        by_cases c6 : i < 6
        · rw [show decide (i ≤ 6) = true from decide_eq_true (by omega), show decide (i + 1 ≤ 6) = true from decide_eq_true (by omega), Bool.true_and, Bool.true_and, show 6 - i = 6 - (i + 1) + 1 by omega, rowB_ge (by omega)]
        · rw [show decide (i + 1 ≤ 6) = false from decide_eq_false (by omega), Bool.false_and, Bool.and_false, show 6 - i = 0 by omega, show rowB 0 n = false from beq_eq_false_iff_ne.mpr (by omega), Bool.and_false]
      rw [key]
      by_cases q : 4 ≤ n % 10
      · rw [if_pos (by rw [l4, m_le (by omega) (by omega)]; exact q), m_isRow0 j m (n / 10) _ (by omega) hj, show decide (n % 10 < 4) = false from decide_eq_false (by omega), Bool.false_and]
        rfl
      · rw [if_neg (by rw [l4, m_le (by omega) (by omega)]; exact q), ih m (n / 10) (i + 1) (by omega) hj (by omega), show decide (n % 10 < 4) = true from decide_eq_true (by omega), Bool.true_and]
theorem m_isRow' (n : Nat) (hn : n < 2 ^ 31) : f_X12_isRow (nI n) = some (bo (rowB 6 n)) := by
  unfold f_X12_isRow
  by_cases c : n = 0
  · subst c
    rw [if_pos (by decide)]
    exact m_isRow0 10 1013 0 0 (by omega) (by decide)
  · rw [if_neg (by rw [l0, m_le (by omega) (by omega)]; omega)]
    exact m_isRow_loop' 10 1013 n 0 hn (by omega) (by omega)
theorem m_neg {x : Int32} (h : x.toInt < 0) (k : Nat) (hk : k < 2 ^ 31) : ¬ nI k ≤ x := by
  rw [Int32.le_iff_toInt_le, nI_toInt hk]
  omega
theorem m_sgn (x : Int32) : x.toInt < 0 ∨ ∃ n : Nat, n < 2 ^ 31 ∧ x = nI n := by
  by_cases h : x.toInt < 0
  · exact Or.inl h
  · exact Or.inr (nI_of (by rw [Int32.lt_iff_toInt_lt]; simpa using h))
theorem m_isRowX (x : Int32) : ∃ c : Bool, f_X1_isRow x = some (bo c) ∧ f_X12_isRow x = some (bo c) ∧ (c = true → okRow x) := by
  rcases m_sgn x with h | ⟨n, hn, rfl⟩
  · refine ⟨false, ?_, ?_, fun q => absurd q (by decide)⟩
    · unfold f_X1_isRow
      rw [m_isWithin, if_neg (fun q => m_neg h 1 (by omega) q.1), Option.bind_some, i00]
      rfl
    · unfold f_X12_isRow
      have hle : ∀ k : Nat, k < 2 ^ 31 → x ≤ nI k := fun k hk => by rw [Int32.le_iff_toInt_le, nI_toInt hk]; omega
      rw [if_pos (show x ≤ 0 from hle 0 (by omega)), show FU = 1023 + 1 from rfl, f_X12_isRow_b14_s, if_pos (show x ≤ 9 from hle 9 (by omega)), i00]
      rfl
  · refine ⟨rowB 6 n, m_isRow n hn, m_isRow' n hn, fun q => ?_⟩
    obtain ⟨k, h1, h2, h3⟩ := rowB_ok 6 n q
    exact ⟨n, k, ⟨h1, h2, h3⟩, rfl⟩
theorem m_shown {n n' : Int32} {a b c d : Nat → Int32} (hS : SigR n a b c d n') (x1 x2 : Int32) : ∃ oc om, f_X11_shown a b n x1 x2 = some oc ∧ f_X12_shown c d n' x1 x2 = some om ∧ oc.1 = om.1 ∧ SigR oc.2.2.2 oc.2.1 oc.2.2.1 om.2.1 om.2.2.1 om.2.2.2 := by
  obtain ⟨h1, h2, rfl, w, hw, rfl, h3⟩ := hS
  unfold f_X11_shown f_X12_shown f_X7_add
  obtain ⟨cc, e1, e2, e3⟩ := m_isRowX x1
  rw [e1, e2, Option.bind_some, Option.bind_some]
  cases cc with
  | false =>
    rw [show bo false = 0 from rfl, i00, i00]
    exact ⟨_, _, rfl, rfl, rfl, h1, h2, rfl, w, hw, rfl, h3⟩
  | true =>
    rw [show bo true = 1 from rfl, i10, i10, m_isWithin, m_in32 (a := 1) (b := 6) (lo := 1) (hi := 6) rfl rfl, Option.bind_some, Option.bind_some]
    by_cases hx : 1 ≤ x2 ∧ x2 ≤ 6
    · rw [if_pos hx, i10, i10]
      by_cases e : w = 8
      · subst e
        exact ⟨_, _, rfl, rfl, rfl, h1, h2, rfl, 8, hw, rfl, h3⟩
      · have hlt : w < 8 := by omega
        simp (disch := omega) only [l8, m_lt, m_eq, hlt, e, if_true, if_false, m_chk, m_cl]
        refine ⟨_, _, rfl, rfl, rfl, upd_E h1 w x1, upd_E h2 w x2, rfl, w + 1, by omega, nI_1 w, fun k hk => ?_⟩
        dsimp only
        by_cases q : k = w
        · subst q; rw [upd_at]; exact e3 rfl
        · rw [upd_ne q]; exact h3 k (by omega)
    · rw [if_neg hx, i00, i00]
      exact ⟨_, _, rfl, rfl, rfl, h1, h2, rfl, w, hw, rfl, h3⟩
