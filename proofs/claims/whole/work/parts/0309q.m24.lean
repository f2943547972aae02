/-! ===== pure part 24: whole, the reference's counts ===== -/
def cS (ahead : Nat → Int64) (v : Nat) : Nat → Nat → Int64 → Int64
  | _, 0, acc => acc
  | f, m + 1, acc => cS ahead v (f + 1) m (acc + ahead (if canN (dA v) (f + 1) = true then v + wgt f else v))
def Wy : Nat → Nat → Int64
  | 0, v => if dA v = 111622 then 1 else 0
  | k + 1, v => cS (Wy k) v 0 6 0
theorem stp_lt {v f : Nat} (hv : v < 504) (hf : f < 6) : (if canN (dA v) (f + 1) = true then v + wgt f else v) < 504 := by
  by_cases c : canN (dA v) (f + 1) = true
  · rw [if_pos c]; exact (t_pw v hv f hf c).1
  · rw [if_neg c]; exact hv
theorem cS_congr {a b : Nat → Int64} (h : ∀ u, u < 504 → a u = b u) {v : Nat} (hv : v < 504) : ∀ m f acc, f + m = 6 → cS a v f m acc = cS b v f m acc := by
  intro m
  induction m with
  | zero => intro f acc _; rfl
  | succ m ih =>
    intro f acc hf
    show cS a v (f + 1) m (acc + a (if canN (dA v) (f + 1) = true then v + wgt f else v)) = cS b v (f + 1) m (acc + b (if canN (dA v) (f + 1) = true then v + wgt f else v))
    rw [h _ (stp_lt hv (by omega))]
    exact ih _ _ (by omega)
theorem m_casts_loop {mo : Nat → Int32} (hm : MostR mo) (ahead : Nat → Int64) {v : Nat} (hv : v < 504) (n : Nat) : ∀ m f acc, f + m = 6 → f_X12_castsFrom_b11 mo ahead (n + m + 1) (nI v) (nI (dA v)) acc (nI (f + 1)) = some (cS ahead v f m acc) := by
  intro m
  induction m with
  | zero =>
    intro f acc hf
    have e : f = 6 := by omega
    subst e
    rw [f_X12_castsFrom_b11_s, if_pos (show (6 : Int32) < nI (6 + 1) by decide)]
    rfl
  | succ m ih =>
    intro f acc hf
    rw [show n + (m + 1) + 1 = n + m + 1 + 1 by omega, f_X12_castsFrom_b11_s, if_neg (show ¬ (6 : Int32) < nI (f + 1) by rw [l6, m_lt (by omega) (by omega)]; omega)]
    show _ = some (cS ahead v (f + 1) m (acc + ahead (if canN (dA v) (f + 1) = true then v + wgt f else v)))
    unfold f_X12_castsFrom_b42
    rcases m_go hm hv (f := f) (by omega) with ⟨a, b, c, e⟩ | ⟨a, c⟩
    · rw [c, Option.bind_some, i10, e, Option.bind_some, m_placeA hm b, Option.bind_some, m_chk b (by omega), m_cl (by omega), nI_1, if_pos a]
      exact ih (f + 1) _ (by omega)
    · rw [c, Option.bind_some, i00, m_chk hv (by omega), m_cl (by omega), nI_1, if_neg (by rw [a]; decide)]
      exact ih (f + 1) _ (by omega)
theorem m_castsFrom {mo : Nat → Int32} (hm : MostR mo) (ahead : Nat → Int64) {v : Nat} (hv : v < 504) : f_X12_castsFrom mo ahead (nI v) = some (cS ahead v 0 6 0) := by
  unfold f_X12_castsFrom
  rw [m_drawnAt hm hv, Option.bind_some]
  exact m_casts_loop hm ahead hv 1017 6 0 0 (by omega)
theorem m_504 {v : Nat} (h : v < 504) : ¬ (504 : Int32) ≤ nI v := by rw [show (504 : Int32) = nI 504 from rfl, m_le (by omega) (by omega)]; omega
theorem m_w40 {mo : Nat → Int32} (hm : MostR mo) (x1 x2 x3 : Int32) (x4 : Int64) (ahead : Nat → Int64) (n : Nat) : ∀ m v (ways : Nat → Int64), v + m = 504 → (∀ u, u < v → ways u = Wy 0 u) → ∃ ways', f_X12_whole_b40 mo (n + m + 1) x1 x2 x3 x4 (nI v) ways ahead = f_X12_whole_b80 mo FU x1 x2 x3 x4 0 ways' ahead ∧ ∀ u, u < 504 → ways' u = Wy 0 u := by
  intro m
  induction m with
  | zero =>
    intro v ways hv h
    have e : v = 504 := by omega
    subst e
    rw [f_X12_whole_b40_s, if_pos (by decide)]
    exact ⟨ways, rfl, h⟩
  | succ m ih =>
    intro v ways hv h
    have h5 : v < 504 := by omega
    have hd := (t_dA v h5).2
    rw [show n + (m + 1) + 1 = n + m + 1 + 1 by omega, f_X12_whole_b40_s, if_neg (m_504 h5), m_drawnAt hm h5, Option.bind_some, m_chk h5 (by omega), m_chk h5 (by omega), m_cl (by omega), nI_1]
    have go : ∀ z, z = Wy 0 v → ∃ ways', f_X12_whole_b40 mo (n + m + 1) x1 x2 x3 x4 (nI (v + 1)) (vp_updL ways v z) ahead = f_X12_whole_b80 mo FU x1 x2 x3 x4 0 ways' ahead ∧ ∀ u, u < 504 → ways' u = Wy 0 u := by
      intro z hz
      refine ih (v + 1) _ (by omega) ?_
      intro u hu
      by_cases c : u = v
      · subst c; rw [updL_at, hz]
      · rw [updL_ne c]; exact h u (by omega)
    by_cases c : dA v = 111622
    · rw [if_pos (by rw [c]; rfl)]
      exact go 1 (by show (1 : Int64) = if dA v = 111622 then 1 else 0; rw [if_pos c])
    · rw [if_neg (by rw [l111622, m_eq (by omega) (by omega)]; exact c)]
      exact go 0 (by show (0 : Int64) = if dA v = 111622 then 1 else 0; rw [if_neg c])
theorem m_w97 {mo : Nat → Int32} (k80 : Int32 → Int32 → Int32 → Int64 → Int32 → (Nat → Int64) → (Nat → Int64) → Option (Int64 × (Nat → Int64) × (Nat → Int64))) (x1 x2 x3 : Int32) (x4 : Int64) (x6 : Int32) (ways : Nat → Int64) (n : Nat) : ∀ m v (ahead : Nat → Int64), v + m = 504 → (∀ u, u < v → ahead u = ways u) → ∃ ahead', f_X12_whole_b97 mo k80 (n + m + 1) x1 x2 x3 x4 x6 (nI v) ways ahead = f_X12_whole_b128 mo k80 FU x1 x2 x3 x4 x6 0 ways ahead' ∧ ∀ u, u < 504 → ahead' u = ways u := by
  intro m
  induction m with
  | zero =>
    intro v ahead hv h
    have e : v = 504 := by omega
    subst e
    rw [f_X12_whole_b97_s, if_pos (by decide)]
    exact ⟨ahead, rfl, h⟩
  | succ m ih =>
    intro v ahead hv h
    have h5 : v < 504 := by omega
    rw [show n + (m + 1) + 1 = n + m + 1 + 1 by omega, f_X12_whole_b97_s, if_neg (m_504 h5), m_chk h5 (by omega), m_chk h5 (by omega), m_cl (by omega), nI_1]
    refine ih (v + 1) _ (by omega) ?_
    intro u hu
    by_cases c : u = v
    · subst c; rw [updL_at]
    · rw [updL_ne c]; exact h u (by omega)
theorem m_w128 {mo : Nat → Int32} (hm : MostR mo) (k80 : Int32 → Int32 → Int32 → Int64 → Int32 → (Nat → Int64) → (Nat → Int64) → Option (Int64 × (Nat → Int64) × (Nat → Int64))) (x1 x2 x3 : Int32) (x4 : Int64) (x6 : Int32) (ahead : Nat → Int64) {k : Nat} (ha : ∀ u, u < 504 → ahead u = Wy k u) (n : Nat) : ∀ m v (ways : Nat → Int64), v + m = 504 → (∀ u, u < v → ways u = Wy (k + 1) u) → ∃ ways', f_X12_whole_b128 mo k80 (n + m + 1) x1 x2 x3 x4 x6 (nI v) ways ahead = k80 x1 x2 x3 x4 (x6 + 1) ways' ahead ∧ ∀ u, u < 504 → ways' u = Wy (k + 1) u := by
  intro m
  induction m with
  | zero =>
    intro v ways hv h
    have e : v = 504 := by omega
    subst e
    rw [f_X12_whole_b128_s, if_pos (by decide)]
    exact ⟨ways, rfl, h⟩
  | succ m ih =>
    intro v ways hv h
    have h5 : v < 504 := by omega
    rw [show n + (m + 1) + 1 = n + m + 1 + 1 by omega, f_X12_whole_b128_s, if_neg (m_504 h5), m_castsFrom hm ahead h5, Option.bind_some, m_chk h5 (by omega), m_cl (by omega), nI_1]
    refine ih (v + 1) _ (by omega) ?_
    intro u hu
    by_cases c : u = v
    · subst c; rw [updL_at]; exact cS_congr ha h5 6 0 0 (by omega)
    · rw [updL_ne c]; exact h u (by omega)
theorem m_w80 {mo : Nat → Int32} (hm : MostR mo) (x1 x3 : Int32) {K : Nat} (hK : K ≤ 24) (n : Nat) : ∀ m k (ways ahead : Nat → Int64), k + m = K → (∀ u, u < 504 → ways u = Wy k u) → ∃ ways' ahead', f_X12_whole_b80 mo (n + m + 1) x1 (nI K) x3 (nL (6 ^ k)) (nI k) ways ahead = f_X12_whole_b80 mo (n + 1) x1 (nI K) x3 (nL (6 ^ K)) (nI K) ways' ahead' ∧ ∀ u, u < 504 → ways' u = Wy K u := by
  intro m
  induction m with
  | zero =>
    intro k ways ahead hk h
    have e : k = K := by omega
    subst e
    exact ⟨ways, ahead, rfl, h⟩
  | succ m ih =>
    intro k ways ahead hk h
    rw [show n + (m + 1) + 1 = n + m + 1 + 1 by omega, f_X12_whole_b80_s, if_neg (show ¬ nI K ≤ nI k by rw [m_le (by omega) (by omega)]; omega), show (6 : Int64) = nL 6 from rfl, nL_mul, ← Nat.pow_succ]
    obtain ⟨ah, a1, a2⟩ := m_w97 (mo := mo) (f_X12_whole_b80 mo (n + m + 1)) x1 (nI K) x3 (nL (6 ^ (k + 1))) (nI k) ways 519 504 0 ahead (by omega) (fun u hu => absurd hu (by omega))
    have a1' : f_X12_whole_b97 mo (f_X12_whole_b80 mo (n + m + 1)) FU x1 (nI K) x3 (nL (6 ^ (k + 1))) (nI k) 0 ways ahead = _ := a1
    obtain ⟨wy, b1, b2⟩ := m_w128 hm (f_X12_whole_b80 mo (n + m + 1)) x1 (nI K) x3 (nL (6 ^ (k + 1))) (nI k) ah (k := k) (fun u hu => by rw [a2 u hu, h u hu]) 519 504 0 ways (by omega) (fun u hu => absurd hu (by omega))
    have b1' : f_X12_whole_b128 mo (f_X12_whole_b80 mo (n + m + 1)) FU x1 (nI K) x3 (nL (6 ^ (k + 1))) (nI k) 0 ways ah = _ := b1
    rw [a1', b1', nI_1]
    exact ih (k + 1) wy ah (by omega) b2
def aS (g : Nat → Nat) (i : Nat) : Nat → Nat
  | 0 => 0
  | f + 1 => aS g i f + g (nx i f)
def AN : Nat → Nat → Nat
  | 0, i => if i = 140 then 1 else 0
  | k + 1, i => aS (AN k) i 6
theorem AN_le : ∀ k i, AN k i ≤ 6 ^ k := by
  intro k
  induction k with
  | zero => intro i; show (if i = 140 then 1 else 0) ≤ 1; split <;> omega
  | succ k ih =>
    intro i
    show aS (AN k) i 6 ≤ 6 ^ (k + 1)
    have : ∀ f, aS (AN k) i f ≤ f * 6 ^ k := by
      intro f
      induction f with
      | zero => exact Nat.zero_le _
      | succ f ihf =>
        show aS (AN k) i f + AN k (nx i f) ≤ (f + 1) * 6 ^ k
        have := ih (nx i f)
        rw [Nat.succ_mul]
        omega
    have := this 6
    rw [Nat.pow_succ]
    omega
theorem Wy_A : ∀ k i, i < 141 → Wy k (pl i) = nL (AN k i) := by
  intro k
  induction k with
  | zero =>
    intro i hi
    show (if dA (pl i) = 111622 then (1 : Int64) else 0) = nL (if i = 140 then 1 else 0)
    rw [(t_pl i hi).2]
    by_cases c : i = 140
    · subst c; rw [if_pos t_b140, if_pos rfl]; rfl
    · have a := b_lt 140 i (by omega) (by omega)
      rw [t_b140] at a
      rw [if_neg (by omega), if_neg c]; rfl
  | succ k ih =>
    intro i hi
    have : ∀ m f, f + m = 6 → cS (Wy k) (pl i) f m (nL (aS (AN k) i f)) = nL (aS (AN k) i 6) := by
      intro m
      induction m with
      | zero => intro f hf; have e : f = 6 := by omega
                subst e; rfl
      | succ m ihm =>
        intro f hf
        have hf6 : f < 6 := by omega
        show cS (Wy k) (pl i) (f + 1) m (nL (aS (AN k) i f) + Wy k (if canN (dA (pl i)) (f + 1) = true then pl i + wgt f else pl i)) = _
        have e : (if canN (dA (pl i)) (f + 1) = true then pl i + wgt f else pl i) = pl (nx i f) := by
          rw [(t_pl i hi).2]
          rcases t_can i hi f hf6 with ⟨a, b, _⟩ | ⟨a, b⟩
          · rw [if_pos a, t_plw i hi f hf6 b]
          · rw [if_neg (by rw [a]; decide), b]
        rw [e, ih _ (t_nx i hi f hf6).2, nL_add]
        exact ihm (f + 1) (by omega)
    exact this 6 0 (by omega)
