/-! ===== pure part 9: all that fit ===== -/
def tpI (l : Nat) (x : Int32) : Int32 := (f_X1_topAfter (nI l) x).getD 0
theorem m_tp {l : Nat} {x : Int32} (hl : lieOk l = true) (h : okRow x) : f_X1_topAfter (nI l) x = some (tpI l x) ∧ f_X12_topBy (nI l) x = some (tpI l x) ∧ ∃ v : Nat, 1 ≤ v ∧ v ≤ 6 ∧ tpI l x = nI v := by
  obtain ⟨r, k, hr, rfl⟩ := h
  have e : tpI l (nI r) = nI (topR l r k) := by unfold tpI; rw [m_topAfter hl hr]; rfl
  rw [e]
  exact ⟨m_topAfter hl hr, m_topBy hl hr, _, (topR_rng hl hr).1, (topR_rng hl hr).2, rfl⟩
def fitU (a b : Nat → Int32) (l i : Nat) : Nat → Bool
  | 0 => true
  | m + 1 => (tpI l (a i) == b i) && fitU a b l (i + 1) m
theorem m_fit_loop {a b : Nat → Int32} {w l : Nat} (hw : w ≤ 8) (hr : ∀ k, k < w → okRow (a k)) (hl : lieOk l = true) (n : Nat) : ∀ m i, i + m = w → f_X7_fit_b2 a b (nI w) (n + m + 1) (nI l) (nI i) = some (bo (fitU a b l i m)) := by
  intro m
  induction m with
  | zero =>
    intro i hi
    rw [f_X7_fit_b2_s, if_pos (by rw [m_le (by omega) (by omega)]; omega)]
    rfl
  | succ m ih =>
    intro i hi
    rw [show n + (m + 1) + 1 = n + m + 1 + 1 by omega, f_X7_fit_b2_s, if_neg (by rw [m_le (by omega) (by omega)]; omega), m_chk (by omega) (by omega), m_cl (by omega), (m_tp hl (hr i (by omega))).1, Option.bind_some, m_chk (by omega) (by omega), nI_1]
    unfold fitU
    by_cases c : tpI l (a i) = b i
    · rw [if_pos c, ih (i + 1) (by omega), show (tpI l (a i) == b i) = true from beq_iff_eq.mpr c, Bool.true_and]
    · rw [if_neg c, show (tpI l (a i) == b i) = false from beq_eq_false_iff_ne.mpr c, Bool.false_and]
      rfl
theorem m_fit {a b : Nat → Int32} {w l : Nat} (hw : w ≤ 8) (hr : ∀ k, k < w → okRow (a k)) (hl : lieOk l = true) : f_X7_fit a b (nI w) (nI l) = some (bo (fitU a b l 0 w)) := by
  have q := m_fit_loop (b := b) hw hr hl (1023 - w) w 0 (by omega)
  rw [show 1023 - w + w + 1 = FU by unfold FU; omega] at q
  exact q
theorem m_isFit0 {c d : Nat → Int32} {w : Nat} {x : Int32} (hw : w ≤ 8) (n : Nat) : ∀ m i, i + m = w → f_X12_isFit_b7 c d (nI w) (n + m + 1) x 0 (nI i) = some 0 := by
  intro m
  induction m with
  | zero =>
    intro i hi
    rw [f_X12_isFit_b7_s, if_pos (by rw [m_le (by omega) (by omega)]; omega)]
    rfl
  | succ m ih =>
    intro i hi
    rw [show n + (m + 1) + 1 = n + m + 1 + 1 by omega, f_X12_isFit_b7_s, if_neg (by rw [m_le (by omega) (by omega)]; omega), i00, nI_1]
    exact ih (i + 1) (by omega)
theorem m_isFit_loop {a b c d : Nat → Int32} {w l : Nat} (hw : w ≤ 8) (hr : ∀ k, k < w → okRow (a k)) (h1 : ∀ k, k < 8 → a k = c k) (h2 : ∀ k, k < 8 → b k = d k) (hl : lieOk l = true) (n : Nat) : ∀ m i, i + m = w → f_X12_isFit_b7 c d (nI w) (n + m + 1) (nI l) 1 (nI i) = some (bo (fitU a b l i m)) := by
  intro m
  induction m with
  | zero =>
    intro i hi
    rw [f_X12_isFit_b7_s, if_pos (by rw [m_le (by omega) (by omega)]; omega)]
    rfl
  | succ m ih =>
    intro i hi
    rw [show n + (m + 1) + 1 = n + m + 1 + 1 by omega, f_X12_isFit_b7_s, if_neg (by rw [m_le (by omega) (by omega)]; omega), i10, m_chk (by omega) (by omega), m_cl (by omega), ← h1 i (by omega), (m_tp hl (hr i (by omega))).2.1, Option.bind_some, m_chk (by omega) (by omega), nI_1, ← h2 i (by omega)]
    unfold fitU
    by_cases q : tpI l (a i) = b i
    · rw [if_pos q, ih (i + 1) (by omega), show (tpI l (a i) == b i) = true from beq_iff_eq.mpr q, Bool.true_and]
    · rw [if_neg q, m_isFit0 hw n m (i + 1) (by omega), show (tpI l (a i) == b i) = false from beq_eq_false_iff_ne.mpr q, Bool.false_and]
      rfl
/-- a lie that fits all sights -/
def fitP (a b : Nat → Int32) (w l : Nat) : Bool := lieOk l && fitU a b l 0 w
theorem m_isFit {a b c d : Nat → Int32} {w l : Nat} (hw : w ≤ 8) (hr : ∀ k, k < w → okRow (a k)) (h1 : ∀ k, k < 8 → a k = c k) (h2 : ∀ k, k < 8 → b k = d k) (hlt : l < 2 ^ 31) : f_X12_isFit c d (nI w) (nI l) = some (bo (fitP a b w l)) := by
  unfold f_X12_isFit fitP
  rw [m_isLying l hlt, Option.bind_some]
  cases e : lieOk l with
  | false =>
    have q := m_isFit0 (c := c) (d := d) (x := nI l) hw (1023 - w) w 0 (by omega)
    rw [show 1023 - w + w + 1 = FU by unfold FU; omega] at q
    exact q
  | true =>
    have q := m_isFit_loop (c := c) (d := d) hw hr h1 h2 e (1023 - w) w 0 (by omega)
    rw [show 1023 - w + w + 1 = FU by unfold FU; omega] at q
    exact q
/-- those that fit, from l on, m of them looked at -/
def flF (a b : Nat → Int32) (w : Nat) : Nat → Nat → List Nat
  | _, 0 => []
  | l, m + 1 => match fitP a b w l with
    | true => l :: flF a b w (l + 1) m
    | false => flF a b w (l + 1) m
def vcN : Nat → Nat → Nat
  | _, 0 => 0
  | l, m + 1 => (match lieOk l with
    | true => 1
    | false => 0) + vcN (l + 1) m
theorem flF_t {a b : Nat → Int32} {w l m : Nat} (h : fitP a b w l = true) : flF a b w l (m + 1) = l :: flF a b w (l + 1) m := by
  show (match fitP a b w l with | true => l :: flF a b w (l + 1) m | false => flF a b w (l + 1) m) = _
  rw [h]
theorem flF_f {a b : Nat → Int32} {w l m : Nat} (h : fitP a b w l = false) : flF a b w l (m + 1) = flF a b w (l + 1) m := by
  show (match fitP a b w l with | true => l :: flF a b w (l + 1) m | false => flF a b w (l + 1) m) = _
  rw [h]
theorem fitP_lie {a b : Nat → Int32} {w l : Nat} (h : fitP a b w l = true) : lieOk l = true := by
  unfold fitP at h
  exact (Bool.and_eq_true _ _ ▸ h).1
theorem flF_vc (a b : Nat → Int32) (w : Nat) : ∀ m l, (flF a b w l m).length ≤ vcN l m := by
  intro m
  induction m with
  | zero => intro l; exact Nat.le_refl _
  | succ m ih =>
    intro l
    have q := ih (l + 1)
    show _ ≤ (match lieOk l with | true => 1 | false => 0) + vcN (l + 1) m
    cases e : fitP a b w l with
    | true => rw [flF_t e, fitP_lie e, List.length_cons]; dsimp only; omega
    | false => rw [flF_f e]; omega
theorem flF_mem (a b : Nat → Int32) (w : Nat) : ∀ m l x, x ∈ flF a b w l m → lieOk x = true := by
  intro m
  induction m with
  | zero => intro l x h; cases h
  | succ m ih =>
    intro l x h
    cases e : fitP a b w l with
    | true =>
      rw [flF_t e] at h
      rcases List.mem_cons.mp h with rfl | h
      · exact fitP_lie e
      · exact ih _ _ h
    | false => rw [flF_f e] at h; exact ih _ _ h
/-- a list written into a row at s -/
def appL (f : Nat → Int32) (s : Nat) (L : List Nat) : Nat → Int32 := fun k => if s ≤ k ∧ k < s + L.length then nI (L.getD (k - s) 0) else f k
theorem appL_nil (f : Nat → Int32) (s : Nat) : appL f s [] = f := by
  funext k
  unfold appL
  rw [if_neg (by rw [List.length_nil]; omega)]
theorem appL_cons (f : Nat → Int32) (s l : Nat) (L : List Nat) : appL (upd f s (nI l)) (s + 1) L = appL f s (l :: L) := by
  funext k
  unfold appL
  rw [List.length_cons]
  by_cases c : k = s
  · subst c
    rw [if_neg (by omega), if_pos (by omega), upd_at, Nat.sub_self]
    rfl
  · by_cases h : s + 1 ≤ k ∧ k < s + 1 + L.length
    · rw [if_pos h, if_pos (by omega), show k - s = k - (s + 1) + 1 by omega]
      rfl
    · rw [if_neg h, if_neg (by omega), upd_ne c]
theorem m_search_loop {a b : Nat → Int32} {w : Nat} (hw : w ≤ 8) (hr : ∀ k, k < w → okRow (a k)) (n : Nat) : ∀ m l s (f : Nat → Int32), l + m = 66 → s + vcN l m ≤ 24 → f_X2_search_b8 a b (nI w) (n + m + 1) (nI l) f (nI s) = some (appL f s (flF a b w l m), nI (s + (flF a b w l m).length)) := by
  intro m
  induction m with
  | zero =>
    intro l s f hl hs
    rw [f_X2_search_b8_s, if_pos (by rw [l65, m_lt (by omega) (by omega)]; omega)]
    show some (f, nI s) = some (appL f s [], nI (s + 0))
    rw [appL_nil]
    rfl
  | succ m ih =>
    intro l s f hl hs
    have hv : vcN l (m + 1) = (match lieOk l with | true => 1 | false => 0) + vcN (l + 1) m := rfl
    rw [show n + (m + 1) + 1 = n + m + 1 + 1 by omega, f_X2_search_b8_s, if_neg (by rw [l65, m_lt (by omega) (by omega)]; omega)]
    by_cases c24 : 24 ≤ s
    · rw [if_pos (by rw [l24, m_le (by omega) (by omega)]; exact c24)]
      have q := flF_vc a b w (m + 1) l
      have e : flF a b w l (m + 1) = [] := List.eq_nil_of_length_eq_zero (by omega)
      rw [e, appL_nil]
      rfl
    · rw [if_neg (by rw [l24, m_le (by omega) (by omega)]; exact c24), m_canLie l (by omega), Option.bind_some, nI_1, l1, nI_add]
      cases e : lieOk l with
      | false =>
        rw [e] at hv
        have e2 : fitP a b w l = false := by unfold fitP; rw [e]; rfl
        rw [show bo false = 0 from rfl, i00, flF_f e2]
        exact ih (l + 1) s f (by omega) (by dsimp only at hv; omega)
      | true =>
        rw [e] at hv
        dsimp only at hv
        rw [show bo true = 1 from rfl, i10, m_fit hw hr e, Option.bind_some]
        cases e3 : fitU a b l 0 w with
        | false =>
          have e2 : fitP a b w l = false := by unfold fitP; rw [e, e3]; rfl
          rw [show bo false = 0 from rfl, i00, flF_f e2]
          exact ih (l + 1) s f (by omega) (by omega)
        | true =>
          have e2 : fitP a b w l = true := by unfold fitP; rw [e, e3]; rfl
          rw [show bo true = 1 from rfl, i10, m_chk (by omega) (by omega), m_cl (by omega), flF_t e2, ih (l + 1) (s + 1) _ (by omega) (by omega), appL_cons, List.length_cons, show s + 1 + (flF a b w (l + 1) m).length = s + ((flF a b w (l + 1) m).length + 1) by omega]
abbrev FLs (a b : Nat → Int32) (w : Nat) : List Nat := flF a b w 12 54
theorem m_search {a b : Nat → Int32} {w : Nat} (hw : w ≤ 8) (hr : ∀ k, k < w → okRow (a k)) (f : Nat → Int32) (z : Int32) : f_X2_search f z a b (nI w) = some (appL f 0 (FLs a b w), nI (FLs a b w).length) := by
  have q := m_search_loop (b := b) hw hr 969 54 12 0 f (by omega) (by decide)
  rw [Nat.zero_add] at q
  exact q
theorem FLs_len (a b : Nat → Int32) (w : Nat) : (FLs a b w).length ≤ 24 := Nat.le_trans (flF_vc a b w 54 12) (by decide)
/-- the same as the reference looks, from 11 to 66 -/
theorem FLs_66 (a b : Nat → Int32) (w : Nat) : flF a b w 11 56 = FLs a b w := by
  rw [flF_f (show fitP a b w 11 = false by unfold fitP; rw [show lieOk 11 = false by decide]; rfl)]
  have key : ∀ m l, l + m = 66 → flF a b w l (m + 1) = flF a b w l m := by
    intro m
    induction m with
    | zero =>
      intro l hl
      have e : l = 66 := by omega
      subst e
      rw [flF_f (show fitP a b w 66 = false by unfold fitP; rw [show lieOk 66 = false by decide]; rfl)]
      rfl
    | succ m ih =>
      intro l hl
      cases e : fitP a b w l with
      | true => rw [flF_t e, flF_t e, ih (l + 1) (by omega)]
      | false => rw [flF_f e, flF_f e, ih (l + 1) (by omega)]
  exact key 54 12 (by omega)
theorem m_liesN {a b c d : Nat → Int32} {w : Nat} (hw : w ≤ 8) (hr : ∀ k, k < w → okRow (a k)) (h1 : ∀ k, k < 8 → a k = c k) (h2 : ∀ k, k < 8 → b k = d k) (n : Nat) {x : Int32} (hx : x.toInt < 0) : ∀ m l s, l + m = 67 → s + m ≤ 200 → f_X12_lies_b5 c d (nI w) (n + m + 1) x (nI s) (nI l) = if x = -1 then some (nI (s + (flF a b w l m).length)) else some (-6) := by
  intro m
  induction m with
  | zero =>
    intro l s hl hs
    rw [f_X12_lies_b5_s, if_pos (by rw [l66, m_lt (by omega) (by omega)]; omega)]
    rfl
  | succ m ih =>
    intro l s hl hs
    rw [show n + (m + 1) + 1 = n + m + 1 + 1 by omega, f_X12_lies_b5_s, if_neg (by rw [l66, m_lt (by omega) (by omega)]; omega), m_isFit hw hr h1 h2 (by omega), Option.bind_some, nI_1, nI_1]
    cases e : fitP a b w l with
    | false =>
      rw [show bo false = 0 from rfl, i00, flF_f e]
      exact ih (l + 1) s (by omega) (by omega)
    | true =>
      rw [show bo true = 1 from rfl, i10, flF_t e, if_neg (fun q => by have := nI_toInt (show s < 2 ^ 31 by omega); rw [q] at this; omega), ih (l + 1) (s + 1) (by omega) (by omega), List.length_cons, show s + 1 + (flF a b w (l + 1) m).length = s + ((flF a b w (l + 1) m).length + 1) by omega]
theorem m_liesP {a b c d : Nat → Int32} {w : Nat} (hw : w ≤ 8) (hr : ∀ k, k < w → okRow (a k)) (h1 : ∀ k, k < 8 → a k = c k) (h2 : ∀ k, k < 8 → b k = d k) (n : Nat) {i : Nat} (hi : i < 2 ^ 31) : ∀ m l s, l + m = 67 → s + m ≤ 200 → s ≤ i → f_X12_lies_b5 c d (nI w) (n + m + 1) (nI i) (nI s) (nI l) = if i < s + (flF a b w l m).length then some (nI ((flF a b w l m).getD (i - s) 0)) else some (-6) := by
  intro m
  induction m with
  | zero =>
    intro l s hl hs hsi
    have ne1 : ¬ nI i = -1 := by
      intro y
      have := nI_toInt hi
      rw [y, show (-1 : Int32).toInt = -1 by decide] at this
      omega
    rw [f_X12_lies_b5_s, if_pos (by rw [l66, m_lt (by omega) (by omega)]; omega), if_neg ne1, if_neg (show ¬ i < s + (flF a b w l 0).length by show ¬ i < s + 0; omega)]
  | succ m ih =>
    intro l s hl hs hsi
    rw [show n + (m + 1) + 1 = n + m + 1 + 1 by omega, f_X12_lies_b5_s, if_neg (by rw [l66, m_lt (by omega) (by omega)]; omega), m_isFit hw hr h1 h2 (by omega), Option.bind_some, nI_1, nI_1]
    cases e : fitP a b w l with
    | false =>
      rw [show bo false = 0 from rfl, i00, flF_f e]
      exact ih (l + 1) s (by omega) (by omega) hsi
    | true =>
      rw [show bo true = 1 from rfl, i10, flF_t e, List.length_cons]
      by_cases q : s = i
      · subst q
        rw [if_pos rfl, if_pos (by omega), Nat.sub_self]
        rfl
      · rw [if_neg (by rw [m_eq (by omega) hi]; exact q), ih (l + 1) (s + 1) (by omega) (by omega) (by omega), show s + 1 + (flF a b w (l + 1) m).length = s + ((flF a b w (l + 1) m).length + 1) by omega, show i - s = i - (s + 1) + 1 by omega]
        rfl
theorem m_lies {n n' : Int32} {a b c d : Nat → Int32} (hS : SigR n a b c d n') (f : Nat → Int32) (z x : Int32) : ∃ oc om, f_X11_lies a b n f z x = some oc ∧ f_X12_lies c d n' x = some om ∧ oc.1 = om := by
  obtain ⟨h1, h2, rfl, w, hw, rfl, hr⟩ := hS
  have hlen := FLs_len a b w
  unfold f_X11_lies f_X12_lies
  rw [m_search hw hr, Option.bind_some]
  dsimp only
  have l66' := FLs_66 a b w
  rcases m_sgn x with h | ⟨i, hi, rfl⟩
  · have q := m_liesN (b := b) hw hr h1 h2 967 h 56 11 0 (by omega) (by omega)
    rw [l66', Nat.zero_add] at q
    rw [show f_X12_lies_b5 c d (nI w) FU x 0 11 = _ from q]
    by_cases e : x = -1
    · rw [if_pos e, if_pos e]
      exact ⟨_, _, rfl, rfl, rfl⟩
    · rw [if_neg e, if_neg e, m_isWithin, if_neg (fun y => m_neg h 0 (by omega) y.1), Option.bind_some, i00]
      exact ⟨_, _, rfl, rfl, rfl⟩
  · have q := m_liesP (b := b) hw hr h1 h2 967 hi 56 11 0 (by omega) (by omega) (Nat.zero_le i)
    rw [l66', Nat.zero_add, Nat.sub_zero] at q
    have ne1 : ¬ nI i = -1 := by
      intro y
      have := nI_toInt hi
      rw [y, show (-1 : Int32).toInt = -1 by decide] at this
      omega
    rw [show f_X12_lies_b5 c d (nI w) FU (nI i) 0 11 = _ from q, if_neg ne1, m_isWithin, Option.bind_some]
    by_cases c1 : i < (FLs a b w).length
    · have hq : (0 : Int32) ≤ nI i ∧ nI i ≤ nI (FLs a b w).length - 1 := by
        obtain ⟨k, hk⟩ : ∃ k, (FLs a b w).length = k + 1 := ⟨(FLs a b w).length - 1, by omega⟩
        rw [hk, nI_pred, l0, m_rng hi (by omega) (by omega)]
        omega
      rw [if_pos hq, i10, if_pos c1, m_chk (by omega) (by omega), m_cl hi]
      refine ⟨_, _, rfl, rfl, ?_⟩
      show appL f 0 (FLs a b w) i = _
      unfold appL
      rw [if_pos (by omega), Nat.sub_zero]
    · have hq : ¬ ((0 : Int32) ≤ nI i ∧ nI i ≤ nI (FLs a b w).length - 1) := by
        intro y
        have y2 := y.2
        rw [Int32.le_iff_toInt_le, nI_toInt hi, l1, pk_sub_toInt (by omega) (by omega)] at y2
        omega
      rw [if_neg hq, i00, if_neg c1]
      exact ⟨_, _, rfl, rfl, rfl⟩
