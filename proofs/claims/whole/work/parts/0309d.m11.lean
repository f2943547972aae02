/-! ===== pure part 11: a die turned by turns ===== -/
def tuP (W : Nat → Nat → Bool) (n f t : Nat) : Bool := decide (t ≤ n) && (decide (t ≠ f) && (decide (t + f ≠ 7) && !W (n - t) t))
/-- the least number to turn to, from t on; 0: none -/
def ascN (W : Nat → Nat → Bool) (n f : Nat) : Nat → Nat → Nat
  | _, 0 => 0
  | t, m + 1 => match tuP W n f t with
    | true => t
    | false => ascN W n f (t + 1) m
theorem ascN_t {W : Nat → Nat → Bool} {n f t m : Nat} (h : tuP W n f t = true) : ascN W n f t (m + 1) = t := by
  show (match tuP W n f t with | true => t | false => ascN W n f (t + 1) m) = _
  rw [h]
theorem ascN_f {W : Nat → Nat → Bool} {n f t m : Nat} (h : tuP W n f t = false) : ascN W n f t (m + 1) = ascN W n f (t + 1) m := by
  show (match tuP W n f t with | true => t | false => ascN W n f (t + 1) m) = _
  rw [h]
theorem ascN_gt {W : Nat → Nat → Bool} {n f : Nat} : ∀ m t, n < t → ascN W n f t m = 0 := by
  intro m
  induction m with
  | zero => intro t _; rfl
  | succ m ih =>
    intro t h
    rw [ascN_f (by unfold tuP; rw [decide_eq_false (by omega)]; rfl)]
    exact ih (t + 1) (by omega)
theorem ascN_le {W : Nat → Nat → Bool} {n f : Nat} : ∀ m t, ascN W n f t m < t + m ∨ ascN W n f t m = 0 := by
  intro m
  induction m with
  | zero => intro t; exact Or.inr rfl
  | succ m ih =>
    intro t
    cases e : tuP W n f t with
    | true => rw [ascN_t e]; omega
    | false => rw [ascN_f e]; have := ih (t + 1); omega
def rT (k : Nat) : Int32 := if k = 0 then -6 else nI k
def WinR (wi : Nat → Int32) (W : Nat → Nat → Bool) (N : Nat) : Prop := ∀ k, k < N → ∀ g, 1 ≤ g → g ≤ 6 → ((wi k &&& ((1 : Int32) <<< (nI g &&& 31))) = 0 ↔ W k g = false)
theorem m_wt_loop {wi : Nat → Int32} {W : Nat → Nat → Bool} {n f : Nat} (hn : n < 100) (hW : WinR wi W n) (h1 : 1 ≤ f) (h6 : f ≤ 6) (mm : Nat) : ∀ m t, t + m = 7 → 1 ≤ t → f_X10_winningTurn_b2 wi (mm + m + 1) (nI n) (nI f) (nI t) = some (rT (ascN W n f t m)) := by
  intro m
  induction m with
  | zero =>
    intro t ht _
    rw [f_X10_winningTurn_b2_s, if_pos (by rw [l6, m_lt (by omega) (by omega)]; omega)]
    rfl
  | succ m ih =>
    intro t ht ht1
    rw [show mm + (m + 1) + 1 = mm + m + 1 + 1 by omega, f_X10_winningTurn_b2_s, if_neg (by rw [l6, m_lt (by omega) (by omega)]; omega)]
    by_cases c1 : n < t
    · rw [if_pos (by rw [m_lt (by omega) (by omega)]; exact c1), ascN_gt _ _ c1]
      rfl
    · rw [if_neg (by rw [m_lt (by omega) (by omega)]; exact c1)]
      unfold f_X10_winningTurn_b31
      by_cases c2 : t = f
      · rw [if_pos (by rw [c2]), i00, nI_1, ih (t + 1) (by omega) (by omega), ascN_f (by unfold tuP; rw [decide_eq_false (show ¬ t ≠ f from fun q => q c2)]; simp)]
      · rw [if_neg (by rw [m_eq (by omega) (by omega)]; exact c2), show (7 : Int32) - nI f = nI (7 - f) from pk_sub (a := 7) (by omega)]
        by_cases c3 : t = 7 - f
        · rw [if_pos (by rw [← c3]), i00, nI_1, ih (t + 1) (by omega) (by omega), ascN_f (by unfold tuP; rw [decide_eq_false (show ¬ t + f ≠ 7 by omega)]; simp)]
        · rw [if_neg (by rw [m_eq (by omega) (by omega)]; exact c3), i10, pk_sub (by omega), m_chk (by omega) (by omega), m_cl (by omega), nI_1]
          have q := hW (n - t) (by omega) t ht1 (by omega)
          have e0 : tuP W n f t = !W (n - t) t := by
            unfold tuP
            rw [decide_eq_true (show t ≤ n by omega), decide_eq_true (show t ≠ f from c2), decide_eq_true (show t + f ≠ 7 by omega)]
            rfl
          cases e : W (n - t) t with
          | false =>
            rw [if_pos (q.mpr e), ascN_t (by rw [e0, e]; rfl)]
            unfold rT
            rw [if_neg (by omega)]
          | true =>
            rw [if_neg (fun y => by rw [q.mp y] at e; cases e), ih (t + 1) (by omega) (by omega), ascN_f (by rw [e0, e]; rfl)]
theorem m_winningTurn {wi : Nat → Int32} {W : Nat → Nat → Bool} {n f : Nat} (hn : n < 100) (hW : WinR wi W n) (h1 : 1 ≤ f) (h6 : f ≤ 6) : f_X10_winningTurn wi (nI n) (nI f) = some (rT (ascN W n f 1 6)) := m_wt_loop hn hW h1 h6 1017 6 1 (by omega) (by omega)
/-- who begins can win: by the table of what is less -/
def winT : Nat → Nat → Nat → Bool
  | 0, _, _ => false
  | n + 1, k, f => if k = n then decide (ascN (winT n) n f 1 6 ≠ 0) else winT n k f
theorem winT_k {n k f : Nat} : k < n → ∀ j, winT (n + j) k f = winT n k f := by
  intro h j
  induction j with
  | zero => rfl
  | succ j ih =>
    show (if k = n + j then _ else winT (n + j) k f) = _
    rw [if_neg (by omega), ih]
theorem rT_none (k : Nat) : rT k = -6 ↔ k = 0 ∨ ¬ k < 2 ^ 31 ∧ rT k = -6 := by
  constructor
  · intro h
    by_cases c : k = 0
    · exact Or.inl c
    · by_cases q : k < 2 ^ 31
      · unfold rT at h
        rw [if_neg c] at h
        have := nI_toInt q
        rw [h, show (-6 : Int32).toInt = -6 by decide] at this
        omega
      · exact Or.inr ⟨q, h⟩
  · intro h
    rcases h with h | h
    · rw [h]; rfl
    · exact h.2
theorem rT_none7 {k : Nat} (hk : k < 2 ^ 31) : (rT k = -6) = (k = 0) := propext ⟨fun h => ((rT_none k).mp h).elim id (fun q => absurd hk q.1), fun h => by rw [h]; rfl⟩
theorem or_bits : ∀ w, w < 128 → ∀ f, f < 7 → nI w ||| ((1 : Int32) <<< (nI f &&& 31)) = nI (w ||| 2 ^ f) ∧ w ||| 2 ^ f < 128 := by decide +kernel
theorem and_bits : ∀ w, w < 128 → ∀ g, g < 7 → (decide ((nI w &&& ((1 : Int32) <<< (nI g &&& 31))) = 0) = !w.testBit g) := by decide +kernel
theorem m_ti24 {wi : Nat → Int32} {n : Nat} (hn : n < 100) (hW : WinR wi (winT n) n) (k14 : Int32 → (Nat → Int32) → Option (Nat → Int32)) (mm : Nat) : ∀ m f w, f + m = 7 → 1 ≤ f → w < 128 → (∀ g, f ≤ g → w.testBit g = false) → ∃ w2, w2 < 128 ∧ (∀ g, 1 ≤ g → g ≤ 6 → w2.testBit g = if f ≤ g then decide (ascN (winT n) n g 1 6 ≠ 0) else w.testBit g) ∧ f_X10_init_b24 k14 (mm + m + 1) (nI n) (nI w) (nI f) wi = k14 (nI (n + 1)) (upd wi n (nI w2)) := by
  intro m
  induction m with
  | zero =>
    intro f w hf h1 hw hz
    refine ⟨w, hw, fun g g1 g6 => by rw [if_neg (by omega)], ?_⟩
    rw [f_X10_init_b24_s, if_pos (by rw [l6, m_lt (by omega) (by omega)]; omega), m_chk (by omega) (by omega), m_cl (by omega), nI_1]
  | succ m ih =>
    intro f w hf h1 hw hz
    rw [show mm + (m + 1) + 1 = mm + m + 1 + 1 by omega, f_X10_init_b24_s, if_neg (by rw [l6, m_lt (by omega) (by omega)]; omega), m_winningTurn hn hW h1 (by omega), Option.bind_some, nI_1]
    have hle := ascN_le (W := winT n) (n := n) (f := f) 6 1
    by_cases c : ascN (winT n) n f 1 6 = 0
    · rw [if_pos (by rw [rT_none7 (by omega)]; exact c)]
      obtain ⟨w2, a1, a2, a3⟩ := ih (f + 1) w (by omega) (by omega) hw (fun g hg => hz g (by omega))
      refine ⟨w2, a1, fun g g1 g6 => ?_, a3⟩
      rw [a2 g g1 g6]
      by_cases q : g = f
      · subst q
        rw [if_neg (by omega), if_pos (Nat.le_refl _), hz g (Nat.le_refl _), c]
        rfl
      · by_cases q2 : f ≤ g
        · rw [if_pos (by omega), if_pos q2]
        · rw [if_neg (by omega), if_neg q2]
    · obtain ⟨b1, b2⟩ := or_bits w hw f (by omega)
      rw [if_neg (by rw [rT_none7 (by omega)]; exact c), b1]
      obtain ⟨w2, a1, a2, a3⟩ := ih (f + 1) (w ||| 2 ^ f) (by omega) (by omega) b2 (fun g hg => by rw [Nat.testBit_or, Nat.testBit_two_pow, hz g (by omega), decide_eq_false (by omega)]; rfl)
      refine ⟨w2, a1, fun g g1 g6 => ?_, a3⟩
      rw [a2 g g1 g6]
      by_cases q : g = f
      · subst q
        rw [if_neg (by omega), if_pos (Nat.le_refl _), Nat.testBit_or, Nat.testBit_two_pow, decide_eq_true rfl, Bool.or_true, decide_eq_true c]
      · by_cases q2 : f ≤ g
        · rw [if_pos (by omega), if_pos q2]
        · rw [if_neg (by omega), if_neg q2, Nat.testBit_or, Nat.testBit_two_pow, decide_eq_false (fun y => q y.symm), Bool.or_false]
theorem m_ti14 (mm : Nat) : ∀ m n (wi : Nat → Int32), n + m = 100 → WinR wi (winT n) n → ∃ wi', f_X10_init_b14 (mm + m + 1) (nI n) wi = some wi' ∧ WinR wi' (winT 100) 100 := by
  intro m
  induction m with
  | zero =>
    intro n wi hn hW
    have e : n = 100 := by omega
    subst e
    rw [f_X10_init_b14_s, if_pos (by decide)]
    exact ⟨wi, rfl, hW⟩
  | succ m ih =>
    intro n wi hn hW
    rw [show mm + (m + 1) + 1 = mm + m + 1 + 1 by omega, f_X10_init_b14_s, if_neg (by rw [l99, m_lt (by omega) (by omega)]; omega)]
    obtain ⟨w2, a1, a2, a3⟩ := m_ti24 (show n < 100 by omega) hW (f_X10_init_b14 (mm + m + 1)) 1017 6 1 0 (by omega) (by omega) (by omega) (fun g _ => Nat.zero_testBit g)
    rw [show f_X10_init_b24 (f_X10_init_b14 (mm + m + 1)) FU (nI n) 0 1 wi = _ from a3]
    refine ih (n + 1) _ (by omega) ?_
    intro k hk g g1 g6
    by_cases c : k = n
    · subst c
      rw [upd_at]
      have q := and_bits w2 a1 g (by omega)
      rw [a2 g g1 g6, if_pos g1] at q
      show _ ↔ (if k = k then decide (ascN (winT k) k g 1 6 ≠ 0) else winT k k g) = false
      rw [if_pos rfl]
      constructor
      · intro y
        rw [decide_eq_true y] at q
        cases h : decide (ascN (winT k) k g 1 6 ≠ 0) with
        | false => rfl
        | true => rw [h] at q; cases q
      · intro y
        rw [y] at q
        exact of_decide_eq_true q
    · rw [upd_ne c]
      have q := hW k (by omega) g g1 g6
      show _ ↔ (if k = n then _ else winT n k g) = false
      rw [if_neg c]
      exact q
theorem m_turns_init : ∃ wi, f_X10_init = some wi ∧ WinR wi (winT 100) 100 := m_ti14 923 100 0 (fun _ => 0) (by omega) (fun k hk => by omega)
theorem WinR.at {wi : Nat → Int32} (h : WinR wi (winT 100) 100) {n : Nat} (hn : n < 100) : WinR wi (winT n) n := by
  intro k hk g g1 g6
  have q := h k (by omega) g g1 g6
  rw [show 100 = n + (100 - n) by omega, winT_k hk] at q
  exact q
/-- the reference's table -/
def WinB (wi : Nat → Int32) (W : Nat → Nat → Bool) (N : Nat) : Prop := ∀ k, k < N → ∀ g, 1 ≤ g → g ≤ 6 → wi (7 * k + g) = bo (W k g)
theorem m_lt_loop {wi : Nat → Int32} {W : Nat → Nat → Bool} {n f : Nat} (hn : n < 100) (hW : WinB wi W n) (h1 : 1 ≤ f) (h6 : f ≤ 6) (mm : Nat) : ∀ v, v ≤ 6 → f_X12_leastTurn_b7 wi (mm + v + 1) (nI n) (nI f) (rT (ascN W n f (v + 1) (6 - v))) (nI v) = some (rT (ascN W n f 1 6)) := by
  intro v
  induction v with
  | zero =>
    intro _
    rw [f_X12_leastTurn_b7_s, if_pos (by decide)]
  | succ v ih =>
    intro hv
    rw [show mm + (v + 1) + 1 = mm + v + 1 + 1 by omega, f_X12_leastTurn_b7_s, if_neg (by rw [l0, m_le (by omega) (by omega)]; omega)]
    unfold f_X12_leastTurn_b38
    have step : ∀ acc, acc = rT (ascN W n f (v + 1) (6 - v)) → f_X12_leastTurn_b7 wi (mm + v + 1) (nI n) (nI f) acc (nI (v + 1) + (-1)) = some (rT (ascN W n f 1 6)) := by
      intro acc ha
      rw [ha, pk_m1]
      exact ih (by omega)
    rw [show 6 - v = 6 - (v + 1) + 1 by omega] at step
    by_cases c2 : v + 1 = f
    · rw [if_pos (by rw [c2]), i00]
      refine step _ ?_
      rw [ascN_f (by unfold tuP; rw [decide_eq_false (show ¬ v + 1 ≠ f from fun q => q c2)]; simp)]
    · rw [if_neg (by rw [m_eq (by omega) (by omega)]; exact c2), nI_add]
      by_cases c3 : v + 1 + f = 7
      · rw [if_pos (by rw [c3]; rfl), i00]
        refine step _ ?_
        rw [ascN_f (by unfold tuP; rw [decide_eq_false (show ¬ v + 1 + f ≠ 7 from fun q => q c3)]; simp)]
      · rw [if_neg (by rw [l7, m_eq (by omega) (by omega)]; exact c3)]
        by_cases c1 : n < v + 1
        · rw [if_pos (by rw [m_lt (by omega) (by omega)]; exact c1), i00]
          refine step _ ?_
          rw [ascN_f (by unfold tuP; rw [decide_eq_false (show ¬ v + 1 ≤ n by omega)]; rfl)]
        · rw [if_neg (by rw [m_lt (by omega) (by omega)]; exact c1), i10, pk_sub (by omega), l7, pk_mul, nI_add, m_chk (by omega) (by omega), m_cl (by omega), hW (n - (v + 1)) (by omega) (v + 1) (by omega) hv]
          have e0 : tuP W n f (v + 1) = !W (n - (v + 1)) (v + 1) := by
            unfold tuP
            rw [decide_eq_true (show v + 1 ≤ n by omega), decide_eq_true (show v + 1 ≠ f from c2), decide_eq_true (show v + 1 + f ≠ 7 from c3)]
            rfl
          cases e : W (n - (v + 1)) (v + 1) with
          | false =>
            rw [show bo false = 0 from rfl, i00]
            refine step _ ?_
            rw [ascN_t (by rw [e0, e]; rfl)]
            unfold rT
            rw [if_neg (by omega)]
          | true =>
            rw [show bo true = 1 from rfl, i10]
            refine step _ ?_
            rw [ascN_f (by rw [e0, e]; rfl)]
theorem m_leastTurn {wi : Nat → Int32} {W : Nat → Nat → Bool} {n f : Nat} (hn : n < 100) (hW : WinB wi W n) (h1 : 1 ≤ f) (h6 : f ≤ 6) : f_X12_leastTurn wi (nI n) (nI f) = some (rT (ascN W n f 1 6)) := m_lt_loop hn hW h1 h6 1017 6 (by omega)
theorem m_tb49 {n : Nat} (hn : n < 100) (k40 : Int32 → Int32 → Int32 → Int32 → (Nat → Int32) → Option (Int32 × (Nat → Int32))) (x1 x2 x3 : Int32) (mm : Nat) : ∀ m f (wi : Nat → Int32), f + m = 7 → 1 ≤ f → WinB wi (winT n) n → (∀ g, 1 ≤ g → g < f → wi (7 * n + g) = bo (decide (ascN (winT n) n g 1 6 ≠ 0))) → ∃ wi', WinB wi' (winT (n + 1)) (n + 1) ∧ f_X12_turn_b49 k40 (mm + m + 1) x1 x2 x3 (nI n) (nI f) wi = k40 x1 x2 x3 (nI (n + 1)) wi' := by
  intro m
  induction m with
  | zero =>
    intro f wi hf h1 hW hz
    refine ⟨wi, ?_, ?_⟩
    · intro k hk g g1 g6
      show _ = bo (if k = n then decide (ascN (winT n) n g 1 6 ≠ 0) else winT n k g)
      by_cases c : k = n
      · subst c; rw [if_pos rfl]; exact hz g g1 (by omega)
      · rw [if_neg c]; exact hW k (by omega) g g1 g6
    · rw [f_X12_turn_b49_s, if_pos (by rw [l6, m_lt (by omega) (by omega)]; omega), nI_1]
  | succ m ih =>
    intro f wi hf h1 hW hz
    rw [show mm + (m + 1) + 1 = mm + m + 1 + 1 by omega, f_X12_turn_b49_s, if_neg (by rw [l6, m_lt (by omega) (by omega)]; omega), m_leastTurn hn hW h1 (by omega), Option.bind_some, l7, pk_mul, nI_add, nI_1, show vp_nar .boolean 0 = 0 from rfl, show vp_nar .boolean 1 = 1 from rfl]
    simp (disch := omega) only [m_chk, m_cl]
    have hle := ascN_le (W := winT n) (n := n) (f := f) 6 1
    have go : ∀ b : Bool, b = decide (ascN (winT n) n f 1 6 ≠ 0) → ∃ wi', WinB wi' (winT (n + 1)) (n + 1) ∧ f_X12_turn_b49 k40 (mm + m + 1) x1 x2 x3 (nI n) (nI (f + 1)) (upd wi (7 * n + f) (bo b)) = k40 x1 x2 x3 (nI (n + 1)) wi' := by
      intro b hb
      refine ih (f + 1) _ (by omega) (by omega) (fun k hk g g1 g6 => ?_) (fun g g1 g6 => ?_)
      · rw [upd_ne (by omega)]; exact hW k hk g g1 g6
      · by_cases c : g = f
        · subst c; rw [upd_at, hb]
        · rw [upd_ne (by omega)]; exact hz g g1 (by omega)
    by_cases c : ascN (winT n) n f 1 6 = 0
    · rw [if_pos (show rT (ascN (winT n) n f 1 6) < 0 by rw [c]; decide)]
      exact go false (by rw [c]; rfl)
    · rw [if_neg (show ¬ rT (ascN (winT n) n f 1 6) < 0 by unfold rT; rw [if_neg c]; exact nI_pos (by omega))]
      exact go true (decide_eq_true c).symm
theorem m_tb40 {n f : Nat} (hn : n < 100) (h1 : 1 ≤ f) (h6 : f ≤ 6) (x3 : Int32) (mm : Nat) : ∀ m k (wi : Nat → Int32), k + m = n + 1 → WinB wi (winT k) k → ∃ wi', f_X12_turn_b40 (mm + m + 1) (nI n) (nI f) x3 (nI k) wi = some (if x3 = 1 then rT (ascN (winT n) n f 1 6) else if ascN (winT n) n f 1 6 = 0 then 0 else 1, wi') := by
  intro m
  induction m with
  | zero =>
    intro k wi hk hW
    have e : k = n + 1 := by omega
    subst e
    rw [f_X12_turn_b40_s, if_pos (by rw [m_lt (by omega) (by omega)]; omega)]
    have hW' : WinB wi (winT n) n := by
      intro k hk g g1 g6
      have q := hW k (by omega) g g1 g6
      rw [winT_k hk 1] at q
      exact q
    by_cases c : x3 = 1
    · rw [if_pos c, if_pos c, m_leastTurn hn hW' h1 h6, Option.bind_some]
      exact ⟨_, rfl⟩
    · rw [if_neg c, if_neg c, l7, pk_mul, nI_add, m_chk (by omega) (by omega), m_cl (by omega)]
      have q := hW n (by omega) f h1 h6
      rw [q]
      have e2 : winT (n + 1) n f = decide (ascN (winT n) n f 1 6 ≠ 0) := by
        show (if n = n then _ else _) = _
        rw [if_pos rfl]
      rw [e2]
      by_cases z : ascN (winT n) n f 1 6 = 0
      · rw [if_pos z, decide_eq_false (fun y => y z)]
        exact ⟨_, rfl⟩
      · rw [if_neg z, decide_eq_true z]
        exact ⟨_, rfl⟩
  | succ m ih =>
    intro k wi hk hW
    rw [show mm + (m + 1) + 1 = mm + m + 1 + 1 by omega, f_X12_turn_b40_s, if_neg (by rw [m_lt (by omega) (by omega)]; omega)]
    obtain ⟨wi', a1, a2⟩ := m_tb49 (show k < 100 by omega) (f_X12_turn_b40 (mm + m + 1)) (nI n) (nI f) x3 1017 6 1 wi (by omega) (by omega) hW (fun g g1 g6 => by omega)
    rw [show f_X12_turn_b49 (f_X12_turn_b40 (mm + m + 1)) FU (nI n) (nI f) x3 (nI k) 1 wi = _ from a2]
    exact ih (k + 1) wi' (by omega) a1
theorem m_turn {wi : Nat → Int32} (hi : f_X10_init = some wi) (wm : Nat → Int32) (x1 x2 x3 : Int32) : ∃ oc om, f_X11_turn wi x1 x2 x3 = some oc ∧ f_X12_turn wm x1 x2 x3 = some om ∧ oc = om.1 := by
  obtain ⟨wi', e, hW⟩ := m_turns_init
  rw [hi] at e
  cases e
  unfold f_X11_turn f_X12_turn
  rw [m_isWithin, m_in32 (a := 0) (b := 99) (lo := 0) (hi := 99) rfl rfl, Option.bind_some, Option.bind_some]
  by_cases c1 : 0 ≤ x1 ∧ x1 ≤ 99
  · rw [if_pos c1, i10, i10, m_isWithin, m_in32 (a := 1) (b := 6) (lo := 1) (hi := 6) rfl rfl, Option.bind_some, Option.bind_some]
    by_cases c2 : 1 ≤ x2 ∧ x2 ≤ 6
    · rw [if_pos c2, i10, i10, m_isWithin, m_in32 (a := 0) (b := 1) (lo := 0) (hi := 1) rfl rfl, Option.bind_some, Option.bind_some]
      by_cases c3 : 0 ≤ x3 ∧ x3 ≤ 1
      · rw [if_pos c3, i10, i10]
        obtain ⟨n, hn, rfl⟩ := m_of (n := 99) (by decide) c1
        obtain ⟨f, hf, rfl⟩ := m_of (x := x2) (n := 6) (by decide) ⟨by have := c2.1; rw [Int32.le_iff_toInt_le] at this ⊢; simp at this ⊢; omega, c2.2⟩
        have hf1 : 1 ≤ f := by have := c2.1; rwa [l1, m_le (by omega) (by omega)] at this
        rw [m_winningTurn (by omega) (hW.at (by omega)) hf1 hf, Option.bind_some]
        obtain ⟨w2, q⟩ := m_tb40 (show n < 100 by omega) hf1 hf x3 (1022 - n) (n + 1) 0 wm (by omega) (fun k hk => by omega)
        rw [show 1022 - n + (n + 1) + 1 = FU by unfold FU; omega] at q
        rw [show f_X12_turn_b40 FU (nI n) (nI f) x3 0 wm = _ from q]
        have hle := ascN_le (W := winT n) (n := n) (f := f) 6 1
        by_cases c : x3 = 1
        · rw [if_pos c, if_pos c]
          exact ⟨_, _, rfl, rfl, rfl⟩
        · rw [if_neg c, if_neg c]
          by_cases z : ascN (winT n) n f 1 6 = 0
          · rw [if_pos (by rw [rT_none7 (by omega)]; exact z), if_pos z]
            exact ⟨_, _, rfl, rfl, rfl⟩
          · rw [if_neg (by rw [rT_none7 (by omega)]; exact z), if_neg z]
            exact ⟨_, _, rfl, rfl, rfl⟩
      · rw [if_neg c3, i00, i00]
        exact ⟨_, _, rfl, rfl, rfl⟩
    · rw [if_neg c2, i00, i00]
      exact ⟨_, _, rfl, rfl, rfl⟩
  · rw [if_neg c1, i00, i00]
    exact ⟨_, _, rfl, rfl, rfl⟩
