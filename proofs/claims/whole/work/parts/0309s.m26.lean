/-! ===== pure part 26: whole, lowest terms ===== -/
theorem nL_eq0 {n : Nat} (h : n < 2 ^ 63) : nL n = 0 ↔ n = 0 := by
  constructor
  · intro c
    have := congrArg Int64.toInt c
    rw [nL_toInt h, show (0 : Int64).toInt = 0 from by decide] at this
    omega
  · intro c; rw [c]; rfl
theorem nzl_L {α : Type} {n : Nat} (h : n < 2 ^ 63) (h0 : n ≠ 0) (k : Option α) : nzl (nL n) k = k := if_neg (fun c => h0 ((nL_eq0 h).mp c))
theorem cmpL0 {n : Nat} (h : n < 2 ^ 63) : lg_cmp (nL n) 0 = 0 ↔ n = 0 := by rw [m_cmp_eq, nL_eq0 h]
theorem gcd_st (a c : Nat) : Nat.gcd a c = Nat.gcd c (a % c) := by
  rw [Nat.gcd_comm a c, Nat.gcd_rec c a, Nat.gcd_comm]
theorem mod_half {a c : Nat} (h : a % c ≠ 0) (hc : c ≠ 0) : 2 * (c % (a % c)) < c := by
  have h1 : a % c < c := Nat.mod_lt _ (by omega)
  have h2 : c % (a % c) < a % c := Nat.mod_lt _ (by omega)
  have h3 := Nat.mod_add_div c (a % c)
  have h4 : 1 ≤ c / (a % c) := (Nat.one_le_div_iff (by omega)).mpr (by omega)
  have h5 : a % c ≤ (a % c) * (c / (a % c)) := Nat.le_mul_of_pos_right _ h4
  omega
theorem m_gcd : ∀ b a c F, c < 2 ^ b → a < 2 ^ 63 → c < 2 ^ 63 → 2 * b + 1 ≤ F → f_X12_divisor_b6 F (nL a) (nL c) = some (nL (Nat.gcd a c)) := by
  intro b
  induction b with
  | zero =>
    intro a c F h ha hc hF
    obtain ⟨F, rfl⟩ : ∃ z, F = z + 1 := ⟨F - 1, by omega⟩
    have e : c = 0 := by have : (2 : Nat) ^ 0 = 1 := rfl; omega
    subst e
    rw [f_X12_divisor_b6_s, if_pos ((cmpL0 (by omega)).mpr rfl), Nat.gcd_zero_right]
  | succ b ih =>
    intro a c F h ha hc hF
    obtain ⟨F, rfl⟩ : ∃ z, F = z + 1 + 1 := ⟨F - 2, by omega⟩
    rw [f_X12_divisor_b6_s]
    by_cases c0 : c = 0
    · subst c0
      rw [if_pos ((cmpL0 (by omega)).mpr rfl), Nat.gcd_zero_right]
    · rw [if_neg (fun q => c0 ((cmpL0 hc).mp q)), nzl_L hc c0, nL_rem ha hc, f_X12_divisor_b6_s]
      have hr : a % c < c := Nat.mod_lt _ (by omega)
      by_cases r0 : a % c = 0
      · rw [if_pos ((cmpL0 (by omega)).mpr r0), gcd_st, r0, Nat.gcd_zero_right]
      · have hh := mod_half r0 c0
        rw [if_neg (fun q => r0 ((cmpL0 (by omega)).mp q)), nzl_L (by omega) r0, nL_rem hc (by omega), gcd_st a c, gcd_st c (a % c)]
        exact ih (a % c) (c % (a % c)) F (by rw [Nat.pow_succ] at h; omega) (by omega) (by omega) (by omega)
theorem m_divisor {a c : Nat} (ha : a < 2 ^ 63) (hc : c < 2 ^ 63) : f_X12_divisor (nL c) (nL a) = some (nL (Nat.gcd a c)) :=
  m_gcd 63 a c 1024 hc ha hc (by omega)
theorem m_lt74 {K : Nat} (hK : K ≤ 24) (x3 : Int32) (P n : Nat) : ∀ m a w, a + m = K → w < 2 ^ 63 → P * 3 ^ m < 2 ^ 63 → ∃ e w', e ≤ m ∧ w = 3 ^ e * w' ∧ (e = m ∨ w' % 3 ≠ 0) ∧ f_X11_lowestTerms_b74 (n + m + 1) (nI K) x3 (nL w) (nL (P * 3 ^ m)) (nI a) = (if x3 = 0 then some (nL w') else some (nL (P * 3 ^ (m - e)))) := by
  intro m
  induction m with
  | zero =>
    intro a w ha hw ho
    rw [f_X11_lowestTerms_b74_s, if_pos (show nI K ≤ nI a by rw [m_le (by omega) (by omega)]; omega)]
    exact ⟨0, w, by omega, by rw [Nat.pow_zero, Nat.one_mul], Or.inl rfl, rfl⟩
  | succ m ih =>
    intro a w ha hw ho
    rw [show n + (m + 1) + 1 = n + m + 1 + 1 by omega, f_X11_lowestTerms_b74_s, if_neg (show ¬ nI K ≤ nI a by rw [m_le (by omega) (by omega)]; omega), show (3 : Int64) = nL 3 from rfl, nL_rem hw (by omega)]
    by_cases c : w % 3 = 0
    · have e3 : P * 3 ^ (m + 1) / 3 = P * 3 ^ m := by rw [Nat.pow_succ, ← Nat.mul_assoc]; exact Nat.mul_div_cancel _ (by omega)
      have ho' : P * 3 ^ m < 2 ^ 63 := by rw [Nat.pow_succ, ← Nat.mul_assoc] at ho; omega
      rw [if_pos ((cmpL0 (by omega)).mpr c), nL_div hw (by omega), nL_div ho (by omega), e3, nI_1]
      obtain ⟨e, w', a1, a2, a3, a4⟩ := ih (a + 1) (w / 3) (by omega) (by omega) ho'
      refine ⟨e + 1, w', by omega, ?_, ?_, ?_⟩
      · rw [Nat.pow_succ, Nat.mul_comm (3 ^ e) 3, Nat.mul_assoc, ← a2]; omega
      · rcases a3 with q | q
        · exact Or.inl (by omega)
        · exact Or.inr q
      · rw [a4, show m + 1 - (e + 1) = m - e by omega]
    · rw [if_neg (fun q => c ((cmpL0 (by omega)).mp q))]
      exact ⟨0, w, by omega, by rw [Nat.pow_zero, Nat.one_mul], Or.inr c, rfl⟩
theorem m_lt32 {K : Nat} (hK : K ≤ 24) (x3 : Int32) (P n : Nat) : ∀ m a w, a + m = K → w < 2 ^ 63 → P * 2 ^ m < 2 ^ 63 → ∃ e w', e ≤ m ∧ w = 2 ^ e * w' ∧ (e = m ∨ w' % 2 ≠ 0) ∧ f_X11_lowestTerms_b32 (n + m + 1) (nI K) x3 (nL w) (nL (P * 2 ^ m)) (nI a) = f_X11_lowestTerms_b74 FU (nI K) x3 (nL w') (nL (P * 2 ^ (m - e))) 0 := by
  intro m
  induction m with
  | zero =>
    intro a w ha hw ho
    rw [f_X11_lowestTerms_b32_s, if_pos (show nI K ≤ nI a by rw [m_le (by omega) (by omega)]; omega)]
    exact ⟨0, w, by omega, by rw [Nat.pow_zero, Nat.one_mul], Or.inl rfl, rfl⟩
  | succ m ih =>
    intro a w ha hw ho
    rw [show n + (m + 1) + 1 = n + m + 1 + 1 by omega, f_X11_lowestTerms_b32_s, if_neg (show ¬ nI K ≤ nI a by rw [m_le (by omega) (by omega)]; omega), show (2 : Int64) = nL 2 from rfl, nL_rem hw (by omega)]
    by_cases c : w % 2 = 0
    · have e3 : P * 2 ^ (m + 1) / 2 = P * 2 ^ m := by rw [Nat.pow_succ, ← Nat.mul_assoc]; exact Nat.mul_div_cancel _ (by omega)
      have ho' : P * 2 ^ m < 2 ^ 63 := by rw [Nat.pow_succ, ← Nat.mul_assoc] at ho; omega
      rw [if_pos ((cmpL0 (by omega)).mpr c), nL_div hw (by omega), nL_div ho (by omega), e3, nI_1]
      obtain ⟨e, w', a1, a2, a3, a4⟩ := ih (a + 1) (w / 2) (by omega) (by omega) ho'
      refine ⟨e + 1, w', by omega, ?_, ?_, ?_⟩
      · rw [Nat.pow_succ, Nat.mul_comm (2 ^ e) 2, Nat.mul_assoc, ← a2]; omega
      · rcases a3 with q | q
        · exact Or.inl (by omega)
        · exact Or.inr q
      · rw [a4, show m + 1 - (e + 1) = m - e by omega]
    · rw [if_neg (fun q => c ((cmpL0 (by omega)).mp q))]
      exact ⟨0, w, by omega, by rw [Nat.pow_zero, Nat.one_mul], Or.inr c, rfl⟩
theorem m_lt9 {K : Nat} (hK : K ≤ 24) (x3 : Int32) (x : Int64) (n : Nat) : ∀ m a, a + m = K → f_X11_lowestTerms_b9 (n + m + 1) (nI K) x3 x (nL (6 ^ a)) (nI a) = f_X11_lowestTerms_b32 FU (nI K) x3 x (nL (6 ^ K)) 0 := by
  intro m
  induction m with
  | zero =>
    intro a ha
    have e : a = K := by omega
    subst e
    rw [f_X11_lowestTerms_b9_s, if_pos (show nI a ≤ nI a by rw [m_le (by omega) (by omega)]; omega)]
  | succ m ih =>
    intro a ha
    rw [show n + (m + 1) + 1 = n + m + 1 + 1 by omega, f_X11_lowestTerms_b9_s, if_neg (show ¬ nI K ≤ nI a by rw [m_le (by omega) (by omega)]; omega), show (6 : Int64) = nL 6 from rfl, nL_mul, ← Nat.pow_succ, nI_1]
    exact ih (a + 1) (by omega)
theorem cop2 {w : Nat} (h : w % 2 ≠ 0) : Nat.Coprime w 2 := by
  have e : w % 2 = 1 := by omega
  show Nat.gcd w 2 = 1
  rw [Nat.gcd_comm, Nat.gcd_rec, e]
  decide
theorem cop3 {w : Nat} (h : w % 3 ≠ 0) : Nat.Coprime w 3 := by
  show Nat.gcd w 3 = 1
  rw [Nat.gcd_comm, Nat.gcd_rec]
  rcases (show w % 3 = 1 ∨ w % 3 = 2 by omega) with e | e <;> rw [e] <;> decide
theorem pw6 {K : Nat} (hK : K ≤ 24) : 6 ^ K < 2 ^ 63 := Nat.lt_of_le_of_lt (Nat.pow_le_pow_right (by omega) hK) (by decide)
theorem m_lowest {K w : Nat} (hK : K ≤ 24) (hw : w ≤ 6 ^ K) (x3 : Int32) : ∃ g p q, Nat.gcd (6 ^ K) w = g ∧ 0 < g ∧ w / g = p ∧ 6 ^ K / g = q ∧ f_X11_lowestTerms (nL w) (nI K) x3 = (if x3 = 0 then some (nL p) else some (nL q)) := by
  have h6 := pw6 hK
  have e6 : 6 ^ K = 3 ^ K * 2 ^ K := by rw [← Nat.mul_pow]
  have h9 := m_lt9 hK x3 (nL w) (1023 - K) K 0 (by omega)
  rw [show 1023 - K + K + 1 = FU by unfold FU; omega] at h9
  have h9' : f_X11_lowestTerms (nL w) (nI K) x3 = _ := h9
  obtain ⟨e, w', a1, a2, a3, a4⟩ := m_lt32 hK x3 (3 ^ K) (1023 - K) K 0 w (by omega) (by omega) (by rw [← e6]; exact h6)
  rw [show 1023 - K + K + 1 = FU by unfold FU; omega] at a4
  have a4' : f_X11_lowestTerms_b32 FU (nI K) x3 (nL w) (nL (3 ^ K * 2 ^ K)) 0 = _ := a4
  have hle : 2 ^ (K - e) * 3 ^ K ≤ 6 ^ K := by rw [e6, Nat.mul_comm]; exact Nat.mul_le_mul_left _ (Nat.pow_le_pow_right (by omega) (by omega))
  have hw' : w' ≤ w := by rw [a2]; exact Nat.le_mul_of_pos_left _ (Nat.pow_pos (by omega))
  obtain ⟨f, w2, b1, b2, b3, b4⟩ := m_lt74 hK x3 (2 ^ (K - e)) (1023 - K) K 0 w' (by omega) (by omega) (by omega)
  rw [show 1023 - K + K + 1 = FU by unfold FU; omega] at b4
  have b4' : f_X11_lowestTerms_b74 FU (nI K) x3 (nL w') (nL (2 ^ (K - e) * 3 ^ K)) 0 = _ := b4
  have hw2 : w = 2 ^ e * 3 ^ f * w2 := by rw [a2, b2, Nat.mul_assoc]
  have h62 : 6 ^ K = 2 ^ e * 3 ^ f * (2 ^ (K - e) * 3 ^ (K - f)) := by
    have c1 : 2 ^ K = 2 ^ e * 2 ^ (K - e) := by rw [← Nat.pow_add]; congr 1; omega
    have c2 : 3 ^ K = 3 ^ f * 3 ^ (K - f) := by rw [← Nat.pow_add]; congr 1; omega
    rw [e6, c1, c2, Nat.mul_comm, Nat.mul_assoc, Nat.mul_assoc, Nat.mul_left_comm (2 ^ (K - e))]
  have hg0 : 0 < 2 ^ e * 3 ^ f := Nat.mul_pos (Nat.pow_pos (by omega)) (Nat.pow_pos (by omega))
  have hcop : Nat.Coprime w2 (2 ^ (K - e) * 3 ^ (K - f)) := by
    apply Nat.Coprime.mul_right
    · rcases a3 with q | q
      · rw [q, Nat.sub_self]; exact Nat.coprime_one_right _
      · apply Nat.Coprime.pow_right
        apply cop2
        intro c
        apply q
        rw [b2, Nat.mul_mod, c, Nat.mul_zero]
    · rcases b3 with q | q
      · rw [q, Nat.sub_self]; exact Nat.coprime_one_right _
      · exact Nat.Coprime.pow_right _ (cop3 q)
  refine ⟨2 ^ e * 3 ^ f, w2, 2 ^ (K - e) * 3 ^ (K - f), ?_, hg0, ?_, ?_, ?_⟩
  · have hc2 : Nat.gcd (2 ^ (K - e) * 3 ^ (K - f)) w2 = 1 := by rw [Nat.gcd_comm]; exact hcop
    rw [h62, hw2, Nat.gcd_mul_left, hc2, Nat.mul_one]
  · rw [hw2]; exact Nat.mul_div_cancel_left _ hg0
  · rw [h62]; exact Nat.mul_div_cancel_left _ hg0
  · rw [h9', e6, a4', Nat.mul_comm (3 ^ K), b4']
theorem m_whole {d next orders mo : Nat → Int32} (hS : ShR d next orders) (hm : MostR mo) (cw ways ahead : Nat → Int64) (x1 x2 x3 : Int32) : ∃ oc om, f_X11_whole d next cw x1 x2 x3 = some oc ∧ f_X12_whole mo ways ahead x1 x2 x3 = some om ∧ oc.1 = om.1 := by
  unfold f_X11_whole f_X12_whole
  rcases m_find hS.1 x1 with ⟨k, hk, rfl, e⟩ | ⟨hn, e⟩
  · have hB : f_X12_isBeetle mo (nI (bN k)) = some 1 := by
      rcases m_isBeetle hm (nI (bN k)) with ⟨_, q⟩ | ⟨q, _⟩
      · exact q
      · exact absurd ((m_mem _).mpr ⟨k, hk, rfl⟩) q
    rw [e, hB, Option.bind_some, Option.bind_some, if_neg (m_ne6 (by omega)), i10, m_isWithin, m_in32 (a := 0) (b := 24) (lo := 0) (hi := 24) rfl rfl, Option.bind_some, Option.bind_some]
    by_cases c : 0 ≤ x2 ∧ x2 ≤ 24
    · rw [if_pos c, i10, i10, m_isWithin, m_in32 (a := 0) (b := 1) (lo := 0) (hi := 1) rfl rfl, Option.bind_some, Option.bind_some]
      obtain ⟨K, hK, rfl⟩ := m_of (n := 24) rfl c
      by_cases c' : 0 ≤ x3 ∧ x3 ≤ 1
      · rw [if_pos c', i10, i10]
        obtain ⟨j, hj, rfl⟩ := m_of (n := 1) rfl c'
        obtain ⟨w', g1⟩ := m_waysToWhole (fun j hj => (hS.2 j hj).1) hk hK cw
        have hA := AN_le K k
        obtain ⟨g, p, q, l1, l2, l3, l4, l5⟩ := m_lowest hK hA (nI j)
        obtain ⟨wy, r1, r2⟩ := m_w40 hm (nI (bN k)) (nI K) (nI j) 1 ahead 519 504 0 ways (by omega) (fun u hu => absurd hu (by omega))
        have r1' : f_X12_whole_b40 mo FU (nI (bN k)) (nI K) (nI j) 1 0 ways ahead = _ := r1
        obtain ⟨wz, az, s1, s2⟩ := m_w80 hm (nI (bN k)) (nI j) hK (1023 - K) K 0 wy ahead (by omega) r2
        rw [show 1023 - K + K + 1 = FU by unfold FU; omega] at s1
        have s1' : f_X12_whole_b80 mo FU (nI (bN k)) (nI K) (nI j) 1 0 wy ahead = _ := s1
        obtain ⟨p1, p2⟩ := t_pl k hk
        have hp := m_placeA hm p1
        rw [p2] at hp
        have h6 := pw6 hK
        have hgle : g ≤ 6 ^ K := by rw [← l1]; exact Nat.gcd_le_left _ (Nat.pow_pos (by omega))
        rw [g1, Option.bind_some, l5, r1', s1', f_X12_whole_b80_s, if_pos (show nI K ≤ nI K by rw [m_le (by omega) (by omega)]; omega), hp, Option.bind_some, m_chk p1 (by omega), m_cl (by omega), s2 _ p1, Wy_A K k hk, m_divisor h6 (by omega), Option.bind_some, l1, nzl_L (by omega) (by omega), nzl_L (by omega) (by omega), nL_div (by omega) (by omega), nL_div h6 (by omega), l3, l4]
        rcases (show j = 0 ∨ j = 1 by omega) with rfl | rfl <;> exact ⟨_, _, rfl, rfl, rfl⟩
      · rw [if_neg c', i00, i00]
        exact ⟨_, _, rfl, rfl, rfl⟩
    · rw [if_neg c, i00, i00]
      exact ⟨_, _, rfl, rfl, rfl⟩
  · have hB : f_X12_isBeetle mo x1 = some 0 := by
      rcases m_isBeetle hm x1 with ⟨q, _⟩ | ⟨_, q⟩
      · obtain ⟨k, hk, e⟩ := (m_mem _).mp q
        exact absurd e (hn k hk)
      · exact q
    rw [e, hB, Option.bind_some, Option.bind_some, if_pos rfl, i00]
    exact ⟨_, _, rfl, rfl, rfl⟩
