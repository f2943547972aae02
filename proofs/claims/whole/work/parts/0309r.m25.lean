/-! ===== pure part 25: whole, the class's counts ===== -/
def Sg (w g : Nat → Int64) : Nat → Int64
  | 0 => 0
  | n + 1 => Sg w g n + w n * g n
theorem Sg_congr {w g w' g' : Nat → Int64} : ∀ n, (∀ i, i < n → w i * g i = w' i * g' i) → Sg w g n = Sg w' g' n := by
  intro n
  induction n with
  | zero => intro _; rfl
  | succ n ih =>
    intro h
    show Sg w g n + w n * g n = Sg w' g' n + w' n * g' n
    rw [ih (fun i hi => h i (by omega)), h n (by omega)]
theorem Sg_add {w g : Nat → Int64} {j : Nat} (x : Int64) : ∀ n, j < n → Sg (vp_updL w j (w j + x)) g n = Sg w g n + x * g j := by
  intro n
  induction n with
  | zero => intro h; exact absurd h (by omega)
  | succ n ih =>
    intro h
    show Sg (vp_updL w j (w j + x)) g n + vp_updL w j (w j + x) n * g n = Sg w g n + w n * g n + x * g j
    by_cases c : n = j
    · subst c
      rw [updL_at, Sg_congr (w := vp_updL w n (w n + x)) (w' := w) (g := g) (g' := g) n (fun i hi => by rw [updL_ne (by omega)]), Int64.add_mul, Int64.add_assoc]
    · rw [updL_ne c, ih (by omega), Int64.add_assoc, Int64.add_assoc, Int64.add_comm (x * g j)]
theorem Sg_zero {w g : Nat → Int64} {j : Nat} : ∀ n, j < n → Sg (vp_updL w j 0) g n + w j * g j = Sg w g n := by
  intro n
  induction n with
  | zero => intro h; exact absurd h (by omega)
  | succ n ih =>
    intro h
    show Sg (vp_updL w j 0) g n + vp_updL w j 0 n * g n + w j * g j = Sg w g n + w n * g n
    by_cases c : n = j
    · subst c
      rw [updL_at, Sg_congr (w := vp_updL w n 0) (w' := w) (g := g) (g' := g) n (fun i hi => by rw [updL_ne (by omega)]), Int64.zero_mul, Int64.add_zero]
    · rw [updL_ne c, ← ih (by omega), Int64.add_assoc, Int64.add_assoc, Int64.add_comm (w n * g n)]
def tS (g : Nat → Int64) (c : Nat) : Nat → Nat → Int64
  | _, 0 => 0
  | f, m + 1 => g (nx c f) + tS g c (f + 1) m
theorem m_after {next : Nat → Int32} {c f : Nat} (hc : c < 141) (hf : f < 6) (hn : ∀ g, g < 6 → next (c * 6 + g) = nI (nx c g)) : f_X6_after next (nI c) (nI (f + 1)) = some (nI (nx c f)) := by
  unfold f_X6_after
  rw [m_ix, m_chk (by omega) (by omega), m_cl (by omega), hn f hf]
theorem m_sp24 {next : Nat → Int32} {c : Nat} (hc : c < 141) (hn : ∀ g, g < 6 → next (c * 6 + g) = nI (nx c g)) (x : Int64) (g : Nat → Int64) (n : Nat) : ∀ m f w, f + m = 6 → ∃ w', f_X6_spread_b24 next (n + m + 1) (nI c) x (nI (f + 1)) w = some w' ∧ Sg w' g 141 = Sg w g 141 + x * tS g c f m ∧ ∀ i, i < c → w' i = w i := by
  intro m
  induction m with
  | zero =>
    intro f w hf
    have e : f = 6 := by omega
    subst e
    rw [f_X6_spread_b24_s, if_pos (show (6 : Int32) < nI (6 + 1) by decide)]
    exact ⟨w, rfl, by show Sg w g 141 = Sg w g 141 + x * 0; rw [Int64.mul_zero, Int64.add_zero], fun _ _ => rfl⟩
  | succ m ih =>
    intro f w hf
    obtain ⟨n1, n2⟩ := t_nx c hc f (by omega)
    rw [show n + (m + 1) + 1 = n + m + 1 + 1 by omega, f_X6_spread_b24_s, if_neg (show ¬ (6 : Int32) < nI (f + 1) by rw [l6, m_lt (by omega) (by omega)]; omega), m_after hc (by omega) hn, Option.bind_some, m_chk n2 (by omega), m_chk n2 (by omega), m_cl (by omega), nI_1]
    obtain ⟨w', a1, a2, a3⟩ := ih (f + 1) (vp_updL w (nx c f) (w (nx c f) + x)) (by omega)
    refine ⟨w', a1, ?_, ?_⟩
    · rw [a2, Sg_add x 141 n2]
      show _ = Sg w g 141 + x * (g (nx c f) + tS g c (f + 1) m)
      rw [Int64.mul_add, Int64.add_assoc]
    · intro i hi
      rw [a3 i hi, updL_ne (by omega)]
/-- the weights while a pass stands before c: below c the old ones, from c on the new ones -/
def gm (m c : Nat) : Nat → Int64 := fun i => if i < c then nL (AN (m + 1) i) else nL (AN m i)
theorem tS_val {m c : Nat} (hc : c < 141) : ∀ k f, f + k = 6 → nL (aS (AN m) c f) + tS (gm m c) c f k = nL (aS (AN m) c 6) := by
  intro k
  induction k with
  | zero => intro f hf; have e : f = 6 := by omega
            subst e
            show nL (aS (AN m) c 6) + 0 = _
            rw [Int64.add_zero]
  | succ k ih =>
    intro f hf
    show nL (aS (AN m) c f) + (gm m c (nx c f) + tS (gm m c) c (f + 1) k) = _
    rw [← ih (f + 1) (by omega), ← Int64.add_assoc]
    congr 1
    have n1 := (t_nx c hc f (by omega)).1
    show nL (aS (AN m) c f) + (if nx c f < c then nL (AN (m + 1) (nx c f)) else nL (AN m (nx c f))) = nL (aS (AN m) c f + AN m (nx c f))
    rw [if_neg (by omega), nL_add]
theorem gm_ne {m c i : Nat} (h : i ≠ c) : gm m (c + 1) i = gm m c i := by
  unfold gm
  by_cases q : i < c
  · rw [if_pos (by omega), if_pos q]
  · rw [if_neg (by omega), if_neg q]
theorem m_spread {next : Nat → Int32} {c : Nat} (hc : c < 141) (hn : ∀ g, g < 6 → next (c * 6 + g) = nI (nx c g)) (m : Nat) (w : Nat → Int64) : ∃ w', f_X6_spread next w (nI c) = some w' ∧ Sg w' (gm m c) 141 = Sg w (gm m (c + 1)) 141 ∧ ∀ i, i < c → w' i = w i := by
  unfold f_X6_spread
  rw [m_chk hc (by omega), m_chk hc (by omega), m_cl (by omega)]
  by_cases z : w c = 0
  · rw [if_pos ((m_cmp_eq _ _).mpr z)]
    refine ⟨w, rfl, ?_, fun _ _ => rfl⟩
    apply Sg_congr
    intro i hi
    by_cases q : i = c
    · subst q; rw [z, Int64.zero_mul, Int64.zero_mul]
    · rw [gm_ne q]
  · rw [if_neg (fun h => z ((m_cmp_eq _ _).mp h))]
    obtain ⟨w', a1, a2, a3⟩ := m_sp24 hc hn (w c) (gm m c) 1017 6 0 (vp_updL w c 0) (by omega)
    refine ⟨w', a1, ?_, fun i hi => by rw [a3 i hi, updL_ne (by omega)]⟩
    have t := tS_val (m := m) hc 6 0 (by omega)
    have t' : tS (gm m c) c 0 6 = nL (AN (m + 1) c) := by
      have : nL (aS (AN m) c 0) = 0 := rfl
      rw [this, Int64.zero_add] at t
      exact t
    have e1 : Sg (vp_updL w c 0) (gm m c) 141 = Sg (vp_updL w c 0) (gm m (c + 1)) 141 := by
      apply Sg_congr
      intro i hi
      by_cases q : i = c
      · subst q; rw [updL_at, Int64.zero_mul, Int64.zero_mul]
      · rw [gm_ne q]
    have e2 : gm m (c + 1) c = nL (AN (m + 1) c) := if_pos (by omega)
    rw [a2, t', e1, ← Sg_zero (w := w) (g := gm m (c + 1)) 141 hc, e2]
def NR (next : Nat → Int32) : Prop := ∀ j, j < 141 → ∀ g, g < 6 → next (j * 6 + g) = nI (nx j g)
theorem m_predlt {s : Nat} (h : s < 2 ^ 30) : nI s + (-1) < nI s := by
  cases s with
  | zero => decide
  | succ s => rw [pk_m1, m_lt (by omega) (by omega)]; omega
theorem m_w43 {next : Nat → Int32} (hN : NR next) (k33 : Int32 → Int32 → Int32 → (Nat → Int64) → Option (Int64 × (Nat → Int64))) {s : Nat} (m : Nat) (x2 x3 : Int32) (n : Nat) : ∀ r w, s + r ≤ 141 → (∀ i, i < s → w i = 0) → ∃ w', f_X6_waysToWhole_b43 next k33 (n + r + 1) (nI s) x2 x3 (nI (s + r) + (-1)) w = k33 (nI s) x2 (x3 + 1) w' ∧ Sg w' (gm m s) 141 = Sg w (gm m (s + r)) 141 ∧ ∀ i, i < s → w' i = 0 := by
  intro r
  induction r with
  | zero =>
    intro w hr h
    rw [f_X6_waysToWhole_b43_s, Nat.add_zero, if_pos (m_predlt (s := s) (by omega))]
    exact ⟨w, rfl, rfl, h⟩
  | succ r ih =>
    intro w hr h
    rw [show n + (r + 1) + 1 = n + r + 1 + 1 by omega, show s + (r + 1) = s + r + 1 by omega, pk_m1, f_X6_waysToWhole_b43_s, if_neg (show ¬ nI (s + r) < nI s by rw [m_lt (by omega) (by omega)]; omega)]
    obtain ⟨w1, a1, a2, a3⟩ := m_spread (c := s + r) (by omega) (hN _ (by omega)) m w
    rw [a1, Option.bind_some]
    obtain ⟨w', b1, b2, b3⟩ := ih w1 (by omega) (fun i hi => by rw [a3 i (by omega), h i hi])
    exact ⟨w', b1, by rw [b2, a2], b3⟩
def GA (m : Nat) : Nat → Int64 := fun i => nL (AN m i)
theorem m_w33 {next : Nat → Int32} (hN : NR next) {s K : Nat} (hs : s < 141) (hK : K ≤ 24) (n : Nat) : ∀ m k w, k + m = K → (∀ i, i < s → w i = 0) → ∃ w', f_X6_waysToWhole_b33 next (n + m + 1) (nI s) (nI K) (nI k) w = some (w' 140, w') ∧ Sg w' (GA 0) 141 = Sg w (GA m) 141 := by
  intro m
  induction m with
  | zero =>
    intro k w hk h
    rw [f_X6_waysToWhole_b33_s, if_pos (show nI K ≤ nI k by rw [m_le (by omega) (by omega)]; omega), show (140 : Int32) = nI 140 from rfl, m_chk (i := 140) (by omega) (by omega), m_cl (i := 140) (by omega)]
    exact ⟨w, rfl, rfl⟩
  | succ m ih =>
    intro k w hk h
    rw [show n + (m + 1) + 1 = n + m + 1 + 1 by omega, f_X6_waysToWhole_b33_s, if_neg (show ¬ nI K ≤ nI k by rw [m_le (by omega) (by omega)]; omega)]
    obtain ⟨w1, a1, a2, a3⟩ := m_w43 hN (f_X6_waysToWhole_b33 next (n + m + 1)) (s := s) m (nI K) (nI k) (1023 - (141 - s)) (141 - s) w (by omega) h
    rw [show 1023 - (141 - s) + (141 - s) + 1 = FU by unfold FU; omega, show s + (141 - s) = 141 by omega, show nI 141 + (-1) = 140 from rfl] at a1
    rw [show s + (141 - s) = 141 by omega] at a2
    rw [a1, nI_1]
    obtain ⟨w', b1, b2⟩ := ih (k + 1) w1 (by omega) a3
    refine ⟨w', b1, ?_⟩
    rw [b2]
    have e1 : Sg w1 (GA m) 141 = Sg w1 (gm m s) 141 := by
      apply Sg_congr
      intro i hi
      by_cases q : i < s
      · rw [a3 i q, Int64.zero_mul, Int64.zero_mul]
      · show _ = w1 i * (if i < s then nL (AN (m + 1) i) else nL (AN m i))
        rw [if_neg q]; rfl
    have e2 : Sg w (GA (m + 1)) 141 = Sg w (gm m 141) 141 := by
      apply Sg_congr
      intro i hi
      show _ = w i * (if i < 141 then nL (AN (m + 1) i) else nL (AN m i))
      rw [if_pos hi]; rfl
    rw [e1, a2, e2]
theorem m_w2 {next : Nat → Int32} {s : Nat} (hs : s < 141) (x2 : Int32) (n : Nat) : ∀ m v w, v + m = 141 → (∀ i, i < v → w i = if i = s then 1 else 0) → ∃ w', f_X6_waysToWhole_b2 next (n + m + 1) (nI s) x2 (nI v) w = f_X6_waysToWhole_b33 next FU (nI s) x2 0 w' ∧ ∀ i, i < 141 → w' i = if i = s then 1 else 0 := by
  intro m
  induction m with
  | zero =>
    intro v w hv h
    have e : v = 141 := by omega
    subst e
    rw [f_X6_waysToWhole_b2_s, if_pos (by decide)]
    exact ⟨w, rfl, h⟩
  | succ m ih =>
    intro v w hv h
    rw [show n + (m + 1) + 1 = n + m + 1 + 1 by omega, f_X6_waysToWhole_b2_s, if_neg (show ¬ (141 : Int32) ≤ nI v by rw [show (141 : Int32) = nI 141 from rfl, m_le (by omega) (by omega)]; omega), m_chk (by omega) (by omega), m_chk (by omega) (by omega), m_cl (by omega), nI_1]
    have go : ∀ z, z = (if v = s then (1 : Int64) else 0) → ∃ w', f_X6_waysToWhole_b2 next (n + m + 1) (nI s) x2 (nI (v + 1)) (vp_updL w v z) = f_X6_waysToWhole_b33 next FU (nI s) x2 0 w' ∧ ∀ i, i < 141 → w' i = if i = s then 1 else 0 := by
      intro z hz
      refine ih (v + 1) _ (by omega) ?_
      intro i hi
      by_cases c : i = v
      · subst c; rw [updL_at, hz]
      · rw [updL_ne c]; exact h i (by omega)
    by_cases c : v = s
    · rw [if_pos (by rw [c])]; exact go 1 (by rw [if_pos c])
    · rw [if_neg (by rw [m_eq (by omega) (by omega)]; exact c)]; exact go 0 (by rw [if_neg c])
theorem Sg_unit {w g : Nat → Int64} {s : Nat} : ∀ n, (∀ i, i < n → w i = if i = s then 1 else 0) → Sg w g n = if s < n then g s else 0 := by
  intro n
  induction n with
  | zero => intro _; rw [if_neg (by omega)]; rfl
  | succ n ih =>
    intro h
    show Sg w g n + w n * g n = _
    rw [ih (fun i hi => h i (by omega)), h n (by omega)]
    by_cases c : n = s
    · subst c; rw [if_neg (by omega), if_pos rfl, if_pos (by omega), Int64.one_mul, Int64.zero_add]
    · rw [if_neg c, Int64.zero_mul, Int64.add_zero]
      by_cases q : s < n
      · rw [if_pos q, if_pos (by omega)]
      · rw [if_neg q, if_neg (by omega)]
theorem Sg_last (w : Nat → Int64) : Sg w (GA 0) 141 = w 140 := by
  show Sg w (GA 0) 140 + w 140 * GA 0 140 = w 140
  have : ∀ n, n ≤ 140 → Sg w (GA 0) n = 0 := by
    intro n
    induction n with
    | zero => intro _; rfl
    | succ n ih =>
      intro h
      show Sg w (GA 0) n + w n * nL (if n = 140 then 1 else 0) = 0
      rw [ih (by omega), if_neg (by omega), show nL 0 = 0 from rfl, Int64.mul_zero, Int64.add_zero]
  rw [this 140 (by omega), Int64.zero_add, show GA 0 140 = 1 from rfl, Int64.mul_one]
theorem m_waysToWhole {next : Nat → Int32} (hN : NR next) {s K : Nat} (hs : s < 141) (hK : K ≤ 24) (w : Nat → Int64) : ∃ w', f_X6_waysToWhole next w (nI s) (nI K) = some (nL (AN K s), w') := by
  obtain ⟨w1, a1, a2⟩ := m_w2 (next := next) hs (nI K) 882 141 0 w (by omega) (fun i hi => absurd hi (by omega))
  have a1' : f_X6_waysToWhole next w (nI s) (nI K) = _ := a1
  obtain ⟨w', b1, b2⟩ := m_w33 hN hs hK (1023 - K) K 0 w1 (by omega) (fun i hi => by rw [a2 i (by omega), if_neg (by omega)])
  rw [show 1023 - K + K + 1 = FU by unfold FU; omega] at b1
  have b1' : f_X6_waysToWhole_b33 next FU (nI s) (nI K) 0 w1 = _ := b1
  rw [Sg_last, Sg_unit (s := s) 141 a2, if_pos hs] at b2
  refine ⟨w', ?_⟩
  rw [a1', b1', b2]
  rfl
