/-! ===== pure part 12: sums of dice ===== -/
def inS (r : Nat → Int64) (v : Nat) : Nat → Nat → Int64 → Int64
  | _, 0, acc => acc
  | f, m + 1, acc => if v < f then acc else inS r v (f + 1) m (acc + r (v - f))
theorem inS_congr {r r' : Nat → Int64} {v : Nat} (h : ∀ u, u < v → r u = r' u) : ∀ m f acc, 1 ≤ f → inS r v f m acc = inS r' v f m acc := by
  intro m
  induction m with
  | zero => intro f acc _; rfl
  | succ m ih =>
    intro f acc hf
    unfold inS
    by_cases c : v < f
    · rw [if_pos c, if_pos c]
    · rw [if_neg c, if_neg c, h (v - f) (by omega), ih (f + 1) _ (by omega)]
def sumS : Nat → Nat → Int64
  | 0, v => if v = 0 then 1 else 0
  | k + 1, v => inS (sumS k) v 1 6 0
theorem inS_zero {r : Nat → Int64} {v : Nat} : ∀ m f, (∀ j, j < f + m → f ≤ j → r (v - j) = 0) → inS r v f m 0 = 0 := by
  intro m
  induction m with
  | zero => intro f _; rfl
  | succ m ih =>
    intro f h
    unfold inS
    by_cases c : v < f
    · rw [if_pos c]
    · rw [if_neg c, h f (by omega) (Nat.le_refl f), show (0 : Int64) + 0 = 0 from rfl]
      exact ih (f + 1) (fun j h1 h2 => h j (by omega) (by omega))
theorem sumS_big : ∀ k v, 6 * k < v → sumS k v = 0 := by
  intro k
  induction k with
  | zero => intro v h; show (if v = 0 then (1 : Int64) else 0) = 0; rw [if_neg (by omega)]
  | succ k ih =>
    intro v h
    exact inS_zero 6 1 (fun j h1 h2 => ih (v - j) (by omega))
theorem updL_at {f : Nat → Int64} {k : Nat} {x : Int64} : vp_updL f k x k = x := pk_uLs
theorem updL_ne {f : Nat → Int64} {k j : Nat} {x : Int64} (h : j ≠ k) : vp_updL f k x j = f j := pk_uLn h
theorem m_sd11 {v : Nat} (hv : v < 100) (k2 : Int32 → (Nat → Int64) → Option (Nat → Int64)) (row : Nat → Int64) (n : Nat) : ∀ m f acc, f + m = 7 → 1 ≤ f → f_X8_addDie_b11 k2 (n + m + 1) (nI v) acc (nI f) row = k2 (nI v + (-1)) (vp_updL row v (inS row v f m acc)) := by
  intro m
  induction m with
  | zero =>
    intro f acc hf _
    rw [f_X8_addDie_b11_s, if_pos (by rw [l6, m_lt (by omega) (by omega)]; omega), m_chk (by omega) (by omega), m_cl (by omega)]
    rfl
  | succ m ih =>
    intro f acc hf h1
    rw [show n + (m + 1) + 1 = n + m + 1 + 1 by omega, f_X8_addDie_b11_s, if_neg (by rw [l6, m_lt (by omega) (by omega)]; omega)]
    unfold inS
    by_cases c : v < f
    · rw [if_pos (by rw [m_lt (by omega) (by omega)]; exact c), if_pos c, m_chk (by omega) (by omega), m_cl (by omega)]
    · rw [if_neg (by rw [m_lt (by omega) (by omega)]; exact c), if_neg c, pk_sub (by omega), m_chk (by omega) (by omega), m_cl (by omega), nI_1]
      exact ih (f + 1) _ (by omega) (by omega)
theorem m_sd2 (k n : Nat) : ∀ j (row : Nat → Int64), j ≤ 100 → (∀ u, u < j → row u = sumS k u) → ∃ row', f_X8_addDie_b2 (n + j + 1) (nI j - 1) row = some row' ∧ ∀ u, u < j → row' u = sumS (k + 1) u := by
  have : ∀ j (row : Nat → Int64), j ≤ 100 → (∀ u, u < j → row u = sumS k u) → ∃ row', f_X8_addDie_b2 (n + j + 1) (nI j - 1) row = some row' ∧ (∀ u, u < j → row' u = sumS (k + 1) u) ∧ ∀ u, j ≤ u → row' u = row u := by
    intro j
    induction j with
    | zero =>
      intro row _ _
      rw [f_X8_addDie_b2_s, if_pos (by decide)]
      exact ⟨row, rfl, fun u h => by omega, fun _ _ => rfl⟩
    | succ j ih =>
      intro row hj h
      rw [show n + (j + 1) + 1 = n + j + 1 + 1 by omega, f_X8_addDie_b2_s, nI_pred, if_neg (nI_pos (by omega))]
      have q := m_sd11 (show j < 100 by omega) (f_X8_addDie_b2 (n + j + 1)) row 1017 6 1 0 (by omega) (by omega)
      rw [show f_X8_addDie_b11 (f_X8_addDie_b2 (n + j + 1)) FU (nI j) 0 1 row = _ from q, ← Int32.sub_eq_add_neg]
      obtain ⟨row', e, a1, a2⟩ := ih (vp_updL row j (inS row j 1 6 0)) (by omega) (fun u hu => by rw [updL_ne (by omega)]; exact h u (by omega))
      refine ⟨row', e, fun u hu => ?_, fun u hu => ?_⟩
      · by_cases c : u = j
        · subst c
          rw [a2 u (Nat.le_refl u), updL_at, inS_congr (r' := sumS k) (fun w hw => h w (by omega)) 6 1 0 (by omega)]
          rfl
        · exact a1 u (by omega)
      · rw [a2 u (by omega), updL_ne (by omega)]
  intro j row hj h
  obtain ⟨row', e, a1, -⟩ := this j row hj h
  exact ⟨row', e, a1⟩
theorem m_addDie {k s : Nat} (hs : s < 100) {row : Nat → Int64} (h : ∀ u, u ≤ s → row u = sumS k u) : ∃ row', f_X8_addDie row (nI s) = some row' ∧ ∀ u, u ≤ s → row' u = sumS (k + 1) u := by
  obtain ⟨row', e, a⟩ := m_sd2 k (1022 - s) (s + 1) row (by omega) (fun u hu => h u (by omega))
  rw [nI_pred, show 1022 - s + (s + 1) + 1 = FU by unfold FU; omega] at e
  exact ⟨row', e, fun u hu => a u (by omega)⟩
theorem m_sw30 {K s : Nat} (hK : K ≤ 12) (hs : s < 100) (n : Nat) : ∀ m k (row : Nat → Int64), k + m = K → (∀ u, u ≤ s → row u = sumS k u) → ∃ row', f_X8_ways_b30 (n + m + 1) (nI K) (nI s) (nI k) row = some (sumS K s, row') := by
  intro m
  induction m with
  | zero =>
    intro k row hk h
    have e : k = K := by omega
    subst e
    rw [f_X8_ways_b30_s, if_pos (by rw [m_le (by omega) (by omega)]; omega), m_chk (by omega) (by omega), m_cl (by omega), h s (Nat.le_refl s)]
    exact ⟨_, rfl⟩
  | succ m ih =>
    intro k row hk h
    obtain ⟨row', e, a⟩ := m_addDie hs h
    rw [show n + (m + 1) + 1 = n + m + 1 + 1 by omega, f_X8_ways_b30_s, if_neg (by rw [m_le (by omega) (by omega)]; omega), e, Option.bind_some, nI_1]
    exact ih (k + 1) row' (by omega) a
theorem m_sw2 {K s : Nat} (hK : K ≤ 12) (hs : s < 100) (n : Nat) : ∀ m v (row : Nat → Int64), v + m = s + 1 → (∀ u, u < v → row u = sumS 0 u) → ∃ row', f_X8_ways_b2 (n + m + 1) (nI K) (nI s) (nI v) row = some (sumS K s, row') := by
  intro m
  induction m with
  | zero =>
    intro v row hv h
    rw [f_X8_ways_b2_s, if_pos (by rw [m_lt (by omega) (by omega)]; omega)]
    obtain ⟨row', e⟩ := m_sw30 hK hs (1023 - K) K 0 row (by omega) (fun u hu => h u (by omega))
    rw [show 1023 - K + K + 1 = FU by unfold FU; omega] at e
    exact ⟨row', e⟩
  | succ m ih =>
    intro v row hv h
    rw [show n + (m + 1) + 1 = n + m + 1 + 1 by omega, f_X8_ways_b2_s, if_neg (by rw [m_lt (by omega) (by omega)]; omega), m_chk (by omega) (by omega), m_chk (by omega) (by omega), m_cl (by omega), nI_1]
    have go : ∀ x, x = sumS 0 v → ∃ row', f_X8_ways_b2 (n + m + 1) (nI K) (nI s) (nI (v + 1)) (vp_updL row v x) = some (sumS K s, row') := by
      intro x hx
      refine ih (v + 1) _ (by omega) (fun u hu => ?_)
      by_cases c : u = v
      · subst c; rw [updL_at, hx]
      · rw [updL_ne c]; exact h u (by omega)
    by_cases c : v = 0
    · subst c
      rw [if_pos (by decide)]
      exact go 1 rfl
    · rw [if_neg (by rw [l0, m_eq (by omega) (by omega)]; exact c)]
      exact go 0 (by show (0 : Int64) = if v = 0 then 1 else 0; rw [if_neg c])
theorem m_ways {K s : Nat} (hK : K ≤ 12) (hs : s < 100) (row : Nat → Int64) : ∃ row', f_X8_ways row (nI K) (nI s) = some (sumS K s, row') := by
  obtain ⟨row', e⟩ := m_sw2 hK hs (1022 - s) (s + 1) 0 row (by omega) (fun u hu => by omega)
  rw [show 1022 - s + (s + 1) + 1 = FU by unfold FU; omega] at e
  exact ⟨row', e⟩
theorem l72 : (72 : Int32) = nI 72 := rfl
theorem m_sm79 {v : Nat} (hv : v < 73) (k68 : Int32 → Int32 → Int32 → Int32 → (Nat → Int64) → Option (Int64 × (Nat → Int64))) (x1 x2 x3 : Int32) (row : Nat → Int64) (n : Nat) : ∀ m f acc, f + m = 7 → 1 ≤ f → f_X12_sums_b79 k68 (n + m + 1) x1 x2 x3 (nI v) acc (nI f) row = k68 x1 x2 x3 (nI v + (-1)) (vp_updL row v (inS row v f m acc)) := by
  intro m
  induction m with
  | zero =>
    intro f acc hf _
    rw [f_X12_sums_b79_s, if_pos (by rw [l6, m_lt (by omega) (by omega)]; omega), m_chk (by omega) (by omega), m_cl (by omega)]
    rfl
  | succ m ih =>
    intro f acc hf h1
    rw [show n + (m + 1) + 1 = n + m + 1 + 1 by omega, f_X12_sums_b79_s, if_neg (by rw [l6, m_lt (by omega) (by omega)]; omega)]
    unfold inS
    by_cases c : v < f
    · rw [if_pos (by rw [m_lt (by omega) (by omega)]; exact c), if_pos c, m_chk (by omega) (by omega), m_cl (by omega)]
    · rw [if_neg (by rw [m_lt (by omega) (by omega)]; exact c), if_neg c, pk_sub (by omega), m_chk (by omega) (by omega), m_cl (by omega), nI_1]
      exact ih (f + 1) _ (by omega) (by omega)
theorem m_sm68 (k59 : Int32 → Int32 → Int32 → (Nat → Int64) → Option (Int64 × (Nat → Int64))) (x1 x2 x3 : Int32) (k n : Nat) : ∀ j (row : Nat → Int64), j ≤ 73 → (∀ u, u < j → row u = sumS k u) → ∃ row', f_X12_sums_b68 k59 (n + j + 1) x1 x2 x3 (nI j - 1) row = k59 x1 x2 (x3 + 1) row' ∧ (∀ u, u < j → row' u = sumS (k + 1) u) ∧ ∀ u, j ≤ u → row' u = row u := by
  intro j
  induction j with
  | zero =>
    intro row _ _
    rw [f_X12_sums_b68_s, if_pos (by decide)]
    exact ⟨row, rfl, fun u h => by omega, fun _ _ => rfl⟩
  | succ j ih =>
    intro row hj h
    rw [show n + (j + 1) + 1 = n + j + 1 + 1 by omega, f_X12_sums_b68_s, nI_pred, if_neg (nI_pos (by omega))]
    have q := m_sm79 (show j < 73 by omega) (f_X12_sums_b68 k59 (n + j + 1)) x1 x2 x3 row 1017 6 1 0 (by omega) (by omega)
    rw [show f_X12_sums_b79 (f_X12_sums_b68 k59 (n + j + 1)) FU x1 x2 x3 (nI j) 0 1 row = _ from q, ← Int32.sub_eq_add_neg]
    obtain ⟨row', e, a1, a2⟩ := ih (vp_updL row j (inS row j 1 6 0)) (by omega) (fun u hu => by rw [updL_ne (by omega)]; exact h u (by omega))
    refine ⟨row', e, fun u hu => ?_, fun u hu => ?_⟩
    · by_cases c : u = j
      · subst c
        rw [a2 u (Nat.le_refl u), updL_at, inS_congr (r' := sumS k) (fun w hw => h w (by omega)) 6 1 0 (by omega)]
        rfl
      · exact a1 u (by omega)
    · rw [a2 u (by omega), updL_ne (by omega)]
theorem m_sm59 {K s : Nat} (hK : K ≤ 12) (hs : s < 100) (n : Nat) : ∀ m k (row : Nat → Int64), k + m = K → (∀ u, u < 73 → row u = sumS k u) → ∃ row', f_X12_sums_b59 (n + m + 1) (nI K) (nI s) (nI k) row = some (sumS K s, row') := by
  intro m
  induction m with
  | zero =>
    intro k row hk h
    have e : k = K := by omega
    subst e
    rw [f_X12_sums_b59_s, if_pos (by rw [m_le (by omega) (by omega)]; omega)]
    by_cases c : s ≤ 72
    · rw [if_pos (by rw [l72, m_le (by omega) (by omega)]; exact c), m_chk (by omega) (by omega), m_cl (by omega), h s (by omega)]
      exact ⟨_, rfl⟩
    · rw [if_neg (by rw [l72, m_le (by omega) (by omega)]; exact c), sumS_big k s (by omega)]
      exact ⟨_, rfl⟩
  | succ m ih =>
    intro k row hk h
    rw [show n + (m + 1) + 1 = n + m + 1 + 1 by omega, f_X12_sums_b59_s, if_neg (by rw [m_le (by omega) (by omega)]; omega)]
    obtain ⟨row', e, a, -⟩ := m_sm68 (f_X12_sums_b59 (n + m + 1)) (nI K) (nI s) (nI k) k 950 73 row (by omega) h
    rw [show f_X12_sums_b68 (f_X12_sums_b59 (n + m + 1)) FU (nI K) (nI s) (nI k) 72 row = _ from e, nI_1]
    exact ih (k + 1) row' (by omega) a
theorem m_sm30 {K s : Nat} (hK : K ≤ 12) (hs : s < 100) (n : Nat) : ∀ m v (row : Nat → Int64), v + m = 73 → (∀ u, u < v → row u = sumS 0 u) → ∃ row', f_X12_sums_b30 (n + m + 1) (nI K) (nI s) (nI v) row = some (sumS K s, row') := by
  intro m
  induction m with
  | zero =>
    intro v row hv h
    rw [f_X12_sums_b30_s, if_pos (by rw [l72, m_lt (by omega) (by omega)]; omega)]
    obtain ⟨row', e⟩ := m_sm59 hK hs (1023 - K) K 0 row (by omega) (fun u hu => h u (by omega))
    rw [show 1023 - K + K + 1 = FU by unfold FU; omega] at e
    exact ⟨row', e⟩
  | succ m ih =>
    intro v row hv h
    rw [show n + (m + 1) + 1 = n + m + 1 + 1 by omega, f_X12_sums_b30_s, if_neg (by rw [l72, m_lt (by omega) (by omega)]; omega), m_chk (by omega) (by omega), m_chk (by omega) (by omega), m_cl (by omega), nI_1]
    have go : ∀ x, x = sumS 0 v → ∃ row', f_X12_sums_b30 (n + m + 1) (nI K) (nI s) (nI (v + 1)) (vp_updL row v x) = some (sumS K s, row') := by
      intro x hx
      refine ih (v + 1) _ (by omega) (fun u hu => ?_)
      by_cases c : u = v
      · subst c; rw [updL_at, hx]
      · rw [updL_ne c]; exact h u (by omega)
    by_cases c : v = 0
    · subst c
      rw [if_pos (by decide)]
      exact go 1 rfl
    · rw [if_neg (by rw [l0, m_eq (by omega) (by omega)]; exact c)]
      exact go 0 (by show (0 : Int64) = if v = 0 then 1 else 0; rw [if_neg c])
theorem m_sums (r1 r2 : Nat → Int64) (x1 x2 : Int32) : ∃ oc om, f_X11_sums r1 x1 x2 = some oc ∧ f_X12_sums r2 x1 x2 = some om ∧ oc.1 = om.1 := by
  unfold f_X11_sums f_X12_sums
  rw [m_isWithin, m_in32 (a := 1) (b := 12) (lo := 1) (hi := 12) rfl rfl, Option.bind_some, Option.bind_some]
  by_cases c1 : 1 ≤ x1 ∧ x1 ≤ 12
  · rw [if_pos c1, i10, i10, m_isWithin, m_in32 (a := 0) (b := 99) (lo := 0) (hi := 99) rfl rfl, Option.bind_some, Option.bind_some]
    by_cases c2 : 0 ≤ x2 ∧ x2 ≤ 99
    · rw [if_pos c2, i10, i10]
      obtain ⟨s, hs, rfl⟩ := m_of (n := 99) (by decide) c2
      obtain ⟨k, hk, rfl⟩ := m_of (x := x1) (n := 12) (by decide) ⟨by have := c1.1; rw [Int32.le_iff_toInt_le] at this ⊢; simp at this ⊢; omega, c1.2⟩
      obtain ⟨q1, e1⟩ := m_ways (s := s) hk (by omega) r1
      obtain ⟨q2, e2⟩ := m_sm30 (s := s) hk (by omega) 950 73 0 r2 (by omega) (fun u hu => by omega)
      rw [e1, Option.bind_some, show f_X12_sums_b30 FU (nI k) (nI s) 0 r2 = _ from e2]
      exact ⟨_, _, rfl, rfl, rfl⟩
    · rw [if_neg c2, i00, i00]
      exact ⟨_, _, rfl, rfl, rfl⟩
  · rw [if_neg c1, i00, i00]
    exact ⟨_, _, rfl, rfl, rfl⟩
