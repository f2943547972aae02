/-! ===== pure part 5: copies, images ===== -/
def cp (j : Nat) (f g : Nat → Int32) : Nat → Int32 := fun k => if k < j then f k else g k
theorem cp_0 (f g : Nat → Int32) : cp 0 f g = g := by funext k; simp [cp]
theorem cp_s (j : Nat) (f g : Nat → Int32) : upd (cp j f g) j (f j) = cp (j + 1) f g := by
  funext k
  by_cases e : k = j
  · subst e; rw [upd_at]; simp [cp]
  · rw [upd_ne e]
    unfold cp
    by_cases h : k < j
    · rw [if_pos h, if_pos (by omega)]
    · rw [if_neg h, if_neg (by omega)]
theorem cp_lt {j k : Nat} {f g : Nat → Int32} (h : k < j) : cp j f g k = f k := by simp [cp, h]
theorem m_copyT_loop (d p d1 p1 : Nat → Int32) (ib ho ga ib1 ho1 ga1 : Int32) (n : Nat) : ∀ j, j ≤ 6 → f_X9_copyFrom_b2 d1 p1 ib1 ho1 ga1 (n + j + 1) (nI (6 - j)) (cp (6 - j) d1 d) (cp (6 - j) p1 p) ib ho ga = some (cp 6 d1 d, cp 6 p1 p, ib1, ho1, ga1) := by
  intro j
  induction j with
  | zero =>
    intro _
    rw [f_X9_copyFrom_b2_s, if_pos (by decide)]
  | succ j ih =>
    intro hj
    rw [show n + (j + 1) + 1 = n + j + 1 + 1 by omega, f_X9_copyFrom_b2_s, if_neg (by rw [l6, m_le (by omega) (by omega)]; omega)]
    simp (disch := omega) only [m_chk, m_cl]
    rw [cp_s, cp_s, nI_1, show 6 - (j + 1) + 1 = 6 - j by omega]
    exact ih (by omega)
theorem m_copyT (d p d1 p1 : Nat → Int32) (ib ho ga ib1 ho1 ga1 : Int32) : f_X9_copyFrom d p ib ho ga d1 p1 ib1 ho1 ga1 = some (cp 6 d1 d, cp 6 p1 p, ib1, ho1, ga1) := by
  have h := m_copyT_loop d p d1 p1 ib ho ga ib1 ho1 ga1 1017 6 (by omega)
  rw [show 6 - 6 = 0 from rfl, cp_0, cp_0] at h
  exact h
theorem m_copyS_loop (r t r1 t1 : Nat → Int32) (z z1 : Int32) (n : Nat) : ∀ j, j ≤ 8 → f_X7_copyFrom_b2 r1 t1 z1 (n + j + 1) (nI (8 - j)) (cp (8 - j) r1 r) (cp (8 - j) t1 t) z = some (cp 8 r1 r, cp 8 t1 t, z1) := by
  intro j
  induction j with
  | zero =>
    intro _
    rw [f_X7_copyFrom_b2_s, if_pos (by decide)]
  | succ j ih =>
    intro hj
    rw [show n + (j + 1) + 1 = n + j + 1 + 1 by omega, f_X7_copyFrom_b2_s, if_neg (by rw [l8, m_le (by omega) (by omega)]; omega)]
    simp (disch := omega) only [m_chk, m_cl]
    rw [cp_s, cp_s, nI_1, show 8 - (j + 1) + 1 = 8 - j by omega]
    exact ih (by omega)
theorem m_copyS (r t r1 t1 : Nat → Int32) (z z1 : Int32) : f_X7_copyFrom r t z r1 t1 z1 = some (cp 8 r1 r, cp 8 t1 t, z1) := by
  have h := m_copyS_loop r t r1 t1 z z1 1015 8 (by omega)
  rw [show 8 - 8 = 0 from rfl, cp_0, cp_0] at h
  exact h
theorem upd_self (f : Nat → Int32) (k : Nat) : upd f k (f k) = f := by
  funext j
  by_cases e : j = k
  · subst e; rw [upd_at]
  · rw [upd_ne e]
/-- a row written into another at a place -/
def wrr (a n : Nat) (row kp : Nat → Int32) : Nat → Int32 := fun k => if a ≤ k ∧ k < a + n then row (k - a) else kp k
theorem wrr_0 (a : Nat) (row kp : Nat → Int32) : wrr a 0 row kp = kp := by
  funext k
  unfold wrr
  rw [if_neg (by omega)]
theorem wrr_s (a n : Nat) (row kp : Nat → Int32) : upd (wrr a n row kp) (a + n) (row n) = wrr a (n + 1) row kp := by
  funext k
  by_cases e : k = a + n
  · subst e; rw [upd_at]
    unfold wrr
    rw [if_pos (by omega), show a + n - a = n by omega]
  · rw [upd_ne e]
    unfold wrr
    by_cases h : a ≤ k ∧ k < a + n
    · rw [if_pos h, if_pos (by omega)]
    · rw [if_neg h, if_neg (by omega)]
theorem wrr_in {a n k : Nat} {row kp : Nat → Int32} (h : k < n) : wrr a n row kp (a + k) = row k := by
  unfold wrr
  rw [if_pos (by omega), show a + k - a = k by omega]
theorem wrr_out {a n k : Nat} {row kp : Nat → Int32} (h : k < a ∨ a + n ≤ k) : wrr a n row kp k = kp k := by
  unfold wrr
  rw [if_neg (by omega)]
theorem m_passW {a : Nat} (h : a < 160) (kp : Nat → Int32) (x : Int32) : f_X12_pass kp (nI a) 1 x = some (x, upd kp a x, nI (a + 1)) := by
  unfold f_X12_pass
  rw [i10]
  unfold f_X12_pass_b20
  rw [m_chk h (by omega), m_cl (by omega), nI_1]
theorem m_passR {a : Nat} (h : a < 160) (kp : Nat → Int32) (x : Int32) : f_X12_pass kp (nI a) 0 x = some (kp a, kp, nI (a + 1)) := by
  unfold f_X12_pass
  rw [i00, m_chk h (by omega), m_cl (by omega)]
  unfold f_X12_pass_b20
  rw [m_chk h (by omega), m_cl (by omega), upd_self, nI_1]
theorem m_rowW_loop {a N : Nat} (hN : N ≤ 8) (ha : a + N ≤ 160) (row kp : Nat → Int32) (n : Nat) : ∀ j, j ≤ N → f_X12_passRow_b2 N 1 (n + j + 1) (nI N) (nI (N - j)) (wrr a (N - j) row kp) (nI (a + (N - j))) row = some (wrr a N row kp, nI (a + N), row) := by
  intro j
  induction j with
  | zero =>
    intro _
    rw [f_X12_passRow_b2_s, if_pos (by rw [m_le (by omega) (by omega)]; omega), show N - 0 = N from rfl]
  | succ j ih =>
    intro hj
    rw [show n + (j + 1) + 1 = n + j + 1 + 1 by omega, f_X12_passRow_b2_s, if_neg (by rw [m_le (by omega) (by omega)]; omega), m_chk (by omega) (by omega), m_cl (by omega), m_passW (by omega), Option.bind_some, m_chk (by omega) (by omega), upd_self, wrr_s, nI_1, show N - (j + 1) + 1 = N - j by omega, show a + (N - (j + 1)) + 1 = a + (N - j) by omega]
    exact ih (by omega)
theorem m_rowW {a N : Nat} (hN : N ≤ 8) (ha : a + N ≤ 160) (row kp : Nat → Int32) : f_X12_passRow N kp (nI a) 1 row (nI N) = some (wrr a N row kp, nI (a + N), row) := by
  have h := m_rowW_loop hN ha row kp (1023 - N) N (Nat.le_refl N)
  rw [show N - N = 0 by omega, wrr_0, Nat.add_zero, show 1023 - N + N + 1 = FU by unfold FU; omega] at h
  exact h
theorem m_rowR_loop {a N : Nat} (hN : N ≤ 8) (ha : a + N ≤ 160) (row kp : Nat → Int32) (n : Nat) : ∀ j, j ≤ N → f_X12_passRow_b2 N 0 (n + j + 1) (nI N) (nI (N - j)) kp (nI (a + (N - j))) (cp (N - j) (fun k => kp (a + k)) row) = some (kp, nI (a + N), cp N (fun k => kp (a + k)) row) := by
  intro j
  induction j with
  | zero =>
    intro _
    rw [f_X12_passRow_b2_s, if_pos (by rw [m_le (by omega) (by omega)]; omega), show N - 0 = N from rfl]
  | succ j ih =>
    intro hj
    rw [show n + (j + 1) + 1 = n + j + 1 + 1 by omega, f_X12_passRow_b2_s, if_neg (by rw [m_le (by omega) (by omega)]; omega), m_chk (by omega) (by omega), m_cl (by omega), m_passR (by omega), Option.bind_some, m_chk (by omega) (by omega), nI_1, show N - (j + 1) + 1 = N - j by omega, show a + (N - (j + 1)) + 1 = a + (N - j) by omega]
    have e := cp_s (N - (j + 1)) (fun k => kp (a + k)) row
    rw [show N - (j + 1) + 1 = N - j by omega] at e
    rw [e]
    exact ih (by omega)
theorem m_rowR {a N : Nat} (hN : N ≤ 8) (ha : a + N ≤ 160) (row kp : Nat → Int32) : f_X12_passRow N kp (nI a) 0 row (nI N) = some (kp, nI (a + N), cp N (fun k => kp (a + k)) row) := by
  have h := m_rowR_loop hN ha row kp (1023 - N) N (Nat.le_refl N)
  rw [show N - N = 0 by omega, cp_0, Nat.add_zero, show 1023 - N + N + 1 = FU by unfold FU; omega] at h
  exact h
/-- an image as it is written -/
def imgW (a : Nat) (b pt inn : Nat → Int32) (ho ga : Int32) (rw_ tp : Nat → Int32) (n : Int32) (kp : Nat → Int32) : Nat → Int32 :=
  wrr (a + 29) 8 tp (wrr (a + 21) 8 rw_ (wrr (a + 15) 6 inn (wrr (a + 9) 6 pt (wrr (a + 3) 6 b (upd (upd (upd kp a ho) (a + 1) ga) (a + 2) n)))))
theorem m_allW {a : Nat} (ha : a + 37 ≤ 160) (b pt inn : Nat → Int32) (ho ga : Int32) (rw_ tp : Nat → Int32) (n : Int32) (kp : Nat → Int32) : f_X12_passAll b pt inn ho ga rw_ tp n kp (nI a) 1 = some (b, pt, inn, ho, ga, rw_, tp, n, imgW a b pt inn ho ga rw_ tp n kp, nI (a + 37)) := by
  unfold f_X12_passAll imgW
  rw [m_passW (by omega), Option.bind_some]
  dsimp only
  rw [m_passW (by omega), Option.bind_some]
  dsimp only
  rw [m_passW (by omega), Option.bind_some]
  dsimp only
  rw [l6, l8, show a + 1 + 1 + 1 = a + 3 by omega, m_rowW (by omega) (by omega), Option.bind_some]
  dsimp only
  rw [show a + 3 + 6 = a + 9 by omega, m_rowW (by omega) (by omega), Option.bind_some]
  dsimp only
  rw [show a + 9 + 6 = a + 15 by omega, m_rowW (by omega) (by omega), Option.bind_some]
  dsimp only
  rw [show a + 15 + 6 = a + 21 by omega, m_rowW (by omega) (by omega), Option.bind_some]
  dsimp only
  rw [show a + 21 + 8 = a + 29 by omega, m_rowW (by omega) (by omega), Option.bind_some]
theorem m_allR {a : Nat} (ha : a + 37 ≤ 160) (b pt inn : Nat → Int32) (ho ga : Int32) (rw_ tp : Nat → Int32) (n : Int32) (kp : Nat → Int32) : f_X12_passAll b pt inn ho ga rw_ tp n kp (nI a) 0 = some (cp 6 (fun k => kp (a + 3 + k)) b, cp 6 (fun k => kp (a + 9 + k)) pt, cp 6 (fun k => kp (a + 15 + k)) inn, kp a, kp (a + 1), cp 8 (fun k => kp (a + 21 + k)) rw_, cp 8 (fun k => kp (a + 29 + k)) tp, kp (a + 2), kp, nI (a + 37)) := by
  unfold f_X12_passAll
  rw [m_passR (by omega), Option.bind_some]
  dsimp only
  rw [m_passR (by omega), Option.bind_some]
  dsimp only
  rw [m_passR (by omega), Option.bind_some]
  dsimp only
  rw [l6, l8, show a + 1 + 1 + 1 = a + 3 by omega, m_rowR (by omega) (by omega), Option.bind_some]
  dsimp only
  rw [show a + 3 + 6 = a + 9 by omega, m_rowR (by omega) (by omega), Option.bind_some]
  dsimp only
  rw [show a + 9 + 6 = a + 15 by omega, m_rowR (by omega) (by omega), Option.bind_some]
  dsimp only
  rw [show a + 15 + 6 = a + 21 by omega, m_rowR (by omega) (by omega), Option.bind_some]
  dsimp only
  rw [show a + 21 + 8 = a + 29 by omega, m_rowR (by omega) (by omega), Option.bind_some]
theorem imgW_at {a : Nat} {b pt inn : Nat → Int32} {ho ga : Int32} {rw_ tp : Nat → Int32} {n : Int32} {kp : Nat → Int32} : imgW a b pt inn ho ga rw_ tp n kp a = ho ∧ imgW a b pt inn ho ga rw_ tp n kp (a + 1) = ga ∧ imgW a b pt inn ho ga rw_ tp n kp (a + 2) = n ∧ (∀ k, k < 6 → imgW a b pt inn ho ga rw_ tp n kp (a + 3 + k) = b k) ∧ (∀ k, k < 6 → imgW a b pt inn ho ga rw_ tp n kp (a + 9 + k) = pt k) ∧ (∀ k, k < 6 → imgW a b pt inn ho ga rw_ tp n kp (a + 15 + k) = inn k) ∧ (∀ k, k < 8 → imgW a b pt inn ho ga rw_ tp n kp (a + 21 + k) = rw_ k) ∧ (∀ k, k < 8 → imgW a b pt inn ho ga rw_ tp n kp (a + 29 + k) = tp k) := by
  unfold imgW
  refine ⟨?_, ?_, ?_, fun k hk => ?_, fun k hk => ?_, fun k hk => ?_, fun k hk => ?_, fun k hk => ?_⟩
  · rw [wrr_out (by omega), wrr_out (by omega), wrr_out (by omega), wrr_out (by omega), wrr_out (by omega), upd_ne (by omega), upd_ne (by omega), upd_at]
  · rw [wrr_out (by omega), wrr_out (by omega), wrr_out (by omega), wrr_out (by omega), wrr_out (by omega), upd_ne (by omega), upd_at]
  · rw [wrr_out (by omega), wrr_out (by omega), wrr_out (by omega), wrr_out (by omega), wrr_out (by omega), upd_at]
  · rw [wrr_out (by omega), wrr_out (by omega), wrr_out (by omega), wrr_out (by omega), wrr_in hk]
  · rw [wrr_out (by omega), wrr_out (by omega), wrr_out (by omega), wrr_in hk]
  · rw [wrr_out (by omega), wrr_out (by omega), wrr_in hk]
  · rw [wrr_out (by omega), wrr_in hk]
  · rw [wrr_in hk]
theorem imgW_out {a k : Nat} {b pt inn : Nat → Int32} {ho ga : Int32} {rw_ tp : Nat → Int32} {n : Int32} {kp : Nat → Int32} (h : k < a ∨ a + 37 ≤ k) : imgW a b pt inn ho ga rw_ tp n kp k = kp k := by
  unfold imgW
  rw [wrr_out (by omega), wrr_out (by omega), wrr_out (by omega), wrr_out (by omega), wrr_out (by omega), upd_ne (by omega), upd_ne (by omega), upd_ne (by omega)]
