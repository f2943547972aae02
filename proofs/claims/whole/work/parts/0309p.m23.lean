/-! ===== pure part 23: orders ===== -/
theorem t_omax : ∀ i, i < 141 → oN i < 2 ^ 31 := by decide +kernel
/-- can the reference draw the face f + 1 at the place v, and where does that lead -/
theorem m_go {mo : Nat → Int32} (hm : MostR mo) {v f : Nat} (hv : v < 504) (hf : f < 6) : (canN (dA v) (f + 1) = true ∧ v + wgt f < 504 ∧ f_X12_canDraw mo (nI (dA v)) (nI (f + 1)) = some 1 ∧ f_X12_drawnBy (nI (dA v)) (nI (f + 1)) = some (nI (dA (v + wgt f)))) ∨ (canN (dA v) (f + 1) = false ∧ f_X12_canDraw mo (nI (dA v)) (nI (f + 1)) = some 0) := by
  have hd : dA v < 2 ^ 31 := by have := (t_dA v hv).2; omega
  have hc := m_canN hd (f := f + 1) (by omega) (by omega)
  rcases m_canDraw hm (f := f + 1) (by omega) (by omega) (nI (dA v)) with ⟨a, b⟩ | ⟨a, b⟩
  · have a' := hc.mp a
    obtain ⟨p1, p2⟩ := t_pw v hv f hf a'
    refine Or.inl ⟨a', p1, b, ?_⟩
    rw [m_drawnBy (by omega) (by omega), m_sU (f + 1) (by omega) (by omega), nI_add, p2, Nat.add_sub_cancel]
  · refine Or.inr ⟨?_, b⟩
    cases h : canN (dA v) (f + 1) with
    | true => exact absurd (hc.mpr h) a
    | false => rfl
def oS (ways : Nat → Int64) (v : Nat) : Nat → Nat → Int64 → Int64
  | _, 0, acc => acc
  | f, m + 1, acc => oS ways v (f + 1) m (if canN (dA v) (f + 1) = true then acc + ways (v + wgt f) else acc)
theorem L_add0 (x : Int64) : x + 0 = x := Int64.add_zero x
theorem m_oF_loop {mo : Nat → Int32} (hm : MostR mo) (ways : Nat → Int64) {v : Nat} (hv : v < 504) (n : Nat) : ∀ m f acc, f + m = 6 → f_X12_ordersFrom_b15 mo ways (n + m + 1) (nI (dA v)) acc (nI (f + 1)) = some (oS ways v f m acc) := by
  intro m
  induction m with
  | zero =>
    intro f acc hf
    have e : f = 6 := by omega
    subst e
    rw [f_X12_ordersFrom_b15_s, if_pos (show (6 : Int32) < nI (6 + 1) by decide)]
    rfl
  | succ m ih =>
    intro f acc hf
    rw [show n + (m + 1) + 1 = n + m + 1 + 1 by omega, f_X12_ordersFrom_b15_s, if_neg (show ¬ (6 : Int32) < nI (f + 1) by rw [l6, m_lt (by omega) (by omega)]; omega)]
    show _ = some (oS ways v (f + 1) m (if canN (dA v) (f + 1) = true then acc + ways (v + wgt f) else acc))
    rcases m_go hm hv (f := f) (by omega) with ⟨a, b, c, e⟩ | ⟨a, c⟩
    · rw [c, Option.bind_some, i10, e, Option.bind_some, m_placeA hm b, Option.bind_some, m_chk b (by omega), m_cl (by omega), nI_1, if_pos a]
      exact ih (f + 1) _ (by omega)
    · rw [c, Option.bind_some, i00, nI_1, L_add0, if_neg (by rw [a]; decide)]
      exact ih (f + 1) _ (by omega)
theorem m_ordersFrom {mo : Nat → Int32} (hm : MostR mo) (ways : Nat → Int64) {v : Nat} (hv : v < 504) : f_X12_ordersFrom mo ways (nI (dA v)) = some (oS ways v 0 6 (if dA v = 111622 then 1 else 0)) := by
  unfold f_X12_ordersFrom
  have hd := (t_dA v hv).2
  by_cases c : dA v = 111622
  · rw [if_pos (by rw [c]; rfl), if_pos c]
    exact m_oF_loop hm ways hv 1017 6 0 1 (by omega)
  · rw [if_neg (by rw [l111622, m_eq (by omega) (by omega)]; exact c), if_neg c]
    exact m_oF_loop hm ways hv 1017 6 0 0 (by omega)
theorem oS_val {ways : Nat → Int64} {j : Nat} (hj : j < 141) (h : ∀ f, f < 6 → nx j f ≠ j → ways (pl (nx j f)) = nL (oN (nx j f))) (c : Nat) : ∀ m f, f + m = 6 → oS ways (pl j) f m (nL (c + oP j f)) = nL (c + oP j 6) := by
  intro m
  induction m with
  | zero => intro f hf; have e : f = 6 := by omega
            subst e; rfl
  | succ m ih =>
    intro f hf
    show oS ways (pl j) (f + 1) m (if canN (dA (pl j)) (f + 1) = true then nL (c + oP j f) + ways (pl j + wgt f) else nL (c + oP j f)) = _
    rw [← ih (f + 1) (by omega), (t_pl j hj).2]
    congr 1
    show _ = nL (c + (oP j f + (if nx j f = j then 0 else oN (nx j f))))
    rcases t_can j hj f (by omega) with ⟨a, b, _⟩ | ⟨a, b⟩
    · rw [if_pos a, if_neg b, ← t_plw j hj f (by omega) b, h f (by omega) b, nL_add, Nat.add_assoc]
    · rw [if_neg (by rw [a]; decide), if_pos b, Nat.add_zero]
theorem oP140 : oP 140 6 = 0 := by decide +kernel
theorem m_ord_loop {mo : Nat → Int32} (hm : MostR mo) (x1 x2 : Int32) (n : Nat) : ∀ t, t ≤ 504 → ∀ ways : Nat → Int64, (∀ j, j < 141 → t ≤ pl j → ways (pl j) = nL (oN j)) → ∃ ways', f_X12_orders_b25 mo (n + t + 1) x1 x2 (nI t + (-1)) ways = f_X12_orders_b25 mo (n + 1) x1 x2 (-1) ways' ∧ ∀ j, j < 141 → ways' (pl j) = nL (oN j) := by
  intro t
  induction t with
  | zero => intro _ ways h; exact ⟨ways, rfl, fun j hj => h j hj (by omega)⟩
  | succ t ih =>
    intro ht ways h
    have hv : t < 504 := by omega
    rw [show n + (t + 1) + 1 = n + t + 1 + 1 by omega, pk_m1, f_X12_orders_b25_s, if_neg (m_nneg (by omega)), m_drawnAt hm hv, Option.bind_some, m_ordersFrom hm ways hv, Option.bind_some, m_chk hv (by omega), m_cl (by omega)]
    refine ih (by omega) _ ?_
    intro j hj hp
    by_cases c : pl j = t
    · rw [c, updL_at, ← c]
      have hs : ∀ f, f < 6 → nx j f ≠ j → ways (pl (nx j f)) = nL (oN (nx j f)) := by
        intro f hf hn
        have := t_wgt f hf
        have e := t_plw j hj f hf hn
        exact h _ (t_nx j hj f hf).2 (by omega)
      rw [(t_pl j hj).2]
      by_cases q : j = 140
      · subst q
        rw [t_b140, if_pos rfl]
        have := oS_val hj hs 1 6 0 (by omega)
        rw [oP140] at this
        rw [t_o140]
        exact this
      · have a := b_lt 140 j (by omega) (by omega)
        rw [t_b140] at a
        rw [if_neg (by omega)]
        have := oS_val hj hs 0 6 0 (by omega)
        rw [t_o j (by omega), Nat.zero_add, Nat.zero_add] at this
        exact this
    · rw [updL_ne c]; exact h j hj (by omega)
def lT (i : Nat) : Nat → Nat → Int32
  | _, 0 => -6
  | f, m + 1 => if nx i f = i then lT i (f + 1) m else nI (f + 1)
theorem m_least_loop {next : Nat → Int32} {i : Nat} (hi : i < 141) (h : ∀ g, g < 6 → next (i * 6 + g) = nI (nx i g)) (n : Nat) : ∀ m f, f + m = 6 → f_X6_leastThrow_b2 next (n + m + 1) (nI i) (nI (f + 1)) = some (lT i f m) := by
  intro m
  induction m with
  | zero =>
    intro f hf
    have e : f = 6 := by omega
    subst e
    rw [f_X6_leastThrow_b2_s, if_pos (show (6 : Int32) < nI (6 + 1) by decide)]
    rfl
  | succ m ih =>
    intro f hf
    obtain ⟨n1, n2⟩ := t_nx i hi f (by omega)
    rw [show n + (m + 1) + 1 = n + m + 1 + 1 by omega, f_X6_leastThrow_b2_s, if_neg (show ¬ (6 : Int32) < nI (f + 1) by rw [l6, m_lt (by omega) (by omega)]; omega)]
    unfold f_X6_after
    rw [m_ix, m_chk (by omega) (by omega), m_cl (by omega), h f (by omega), Option.bind_some]
    show _ = some (if nx i f = i then lT i (f + 1) m else nI (f + 1))
    by_cases c : nx i f = i
    · rw [if_pos (by rw [c]), if_pos c, nI_1]; exact ih (f + 1) (by omega)
    · rw [if_neg (by rw [m_eq (by omega) (by omega)]; exact c), if_neg c]
theorem m_b73 {mo : Nat → Int32} (hm : MostR mo) {i : Nat} (hi : i < 141) (ways : Nat → Int64) (n : Nat) : ∀ t, t ≤ 6 → f_X12_orders_b73 mo (n + t + 1) (nI (bN i)) (lT i t (6 - t)) (nI t) ways = some (lT i 0 6, ways) := by
  intro t
  induction t with
  | zero => intro _; rw [f_X12_orders_b73_s, if_pos (by decide)]
  | succ t ih =>
    intro ht
    have hv := (t_pl i hi).1
    have e := (t_pl i hi).2
    have el : lT i t (6 - t) = if nx i t = i then lT i (t + 1) (6 - (t + 1)) else nI (t + 1) := by
      rw [show 6 - t = 6 - (t + 1) + 1 by omega]; rfl
    rw [show n + (t + 1) + 1 = n + t + 1 + 1 by omega, f_X12_orders_b73_s, if_neg (m_npos (by omega) (by omega)), pk_m1]
    have g := m_go hm hv (f := t) (by omega)
    rw [e] at g
    rcases g with ⟨a, _, c, _⟩ | ⟨a, c⟩
    · rw [c, Option.bind_some, i10]
      rcases t_can i hi t (by omega) with ⟨_, b, _⟩ | ⟨b, _⟩
      · rw [if_neg b] at el
        rw [← el]; exact ih (by omega)
      · rw [a] at b; exact absurd b (by decide)
    · rw [c, Option.bind_some, i00]
      rcases t_can i hi t (by omega) with ⟨b, _⟩ | ⟨_, b⟩
      · rw [a] at b; exact absurd b (by decide)
      · rw [if_pos b] at el
        rw [← el]; exact ih (by omega)
theorem m_orders {d next orders mo : Nat → Int32} (hS : ShR d next orders) (hm : MostR mo) (ways : Nat → Int64) (x1 x2 : Int32) : ∃ oc om, f_X11_orders d next orders x1 x2 = some oc ∧ f_X12_orders mo ways x1 x2 = some om ∧ oc = om.1 := by
  unfold f_X11_orders f_X12_orders
  rcases m_find hS.1 x1 with ⟨k, hk, rfl, e⟩ | ⟨hn, e⟩
  · have hB : f_X12_isBeetle mo (nI (bN k)) = some 1 := by
      rcases m_isBeetle hm (nI (bN k)) with ⟨_, q⟩ | ⟨q, _⟩
      · exact q
      · exact absurd ((m_mem _).mpr ⟨k, hk, rfl⟩) q
    rw [e, hB, Option.bind_some, Option.bind_some, if_neg (m_ne6 (by omega)), i10, m_isWithin, m_in32 (a := 0) (b := 1) (lo := 0) (hi := 1) rfl rfl, Option.bind_some, Option.bind_some]
    by_cases c : 0 ≤ x2 ∧ x2 ≤ 1
    · rw [if_pos c, i10, i10]
      obtain ⟨j, hj, rfl⟩ := m_of (n := 1) rfl c
      obtain ⟨ways', g1, g2⟩ := m_ord_loop hm (nI (bN k)) (nI j) 519 504 (by omega) ways (fun j hj h => absurd h (by have := (t_pl j hj).1; omega))
      have g1' : f_X12_orders_b25 mo FU (nI (bN k)) (nI j) 503 ways = _ := g1
      rw [g1', f_X12_orders_b25_s, if_pos (show (-1 : Int32) < 0 by decide), m_chk hk (by omega), m_cl (by omega), (hS.2 k hk).2]
      obtain ⟨p1, p2⟩ := t_pl k hk
      have hp := m_placeA hm p1
      rw [p2] at hp
      rw [hp, Option.bind_some, m_chk p1 (by omega), m_cl (by omega), g2 k hk, nL_to (t_omax k hk)]
      unfold f_X6_leastThrow
      have l1 := m_least_loop hk (hS.2 k hk).1 1017 6 0 (by omega)
      have l2 := m_b73 hm hk ways' 1017 6 (by omega)
      have l1' : f_X6_leastThrow_b2 next FU (nI k) 1 = _ := l1
      have l2' : f_X12_orders_b73 mo FU (nI (bN k)) (-6) 6 ways' = _ := l2
      rw [l1', l2', Option.bind_some]
      rcases (show j = 0 ∨ j = 1 by omega) with rfl | rfl <;> exact ⟨_, _, rfl, rfl, rfl⟩
    · rw [if_neg c, i00, i00]
      exact ⟨_, _, rfl, rfl, rfl⟩
  · have hB : f_X12_isBeetle mo x1 = some 0 := by
      rcases m_isBeetle hm x1 with ⟨q, _⟩ | ⟨_, q⟩
      · obtain ⟨k, hk, e⟩ := (m_mem _).mp q
        exact absurd e (hn k hk)
      · exact q
    rw [e, hB, Option.bind_some, Option.bind_some, if_pos rfl, i00]
    exact ⟨_, _, rfl, rfl, rfl⟩
