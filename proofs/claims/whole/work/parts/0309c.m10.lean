/-! ===== pure part 10: how to look next ===== -/
def tvN (l : Nat) (x : Int32) : Nat := (tpI l x).toNatClampNeg
theorem m_tv {l : Nat} {x : Int32} (hl : lieOk l = true) (h : okRow x) : tpI l x = nI (tvN l x) ∧ 1 ≤ tvN l x ∧ tvN l x ≤ 6 := by
  obtain ⟨-, -, v, h1, h2, e⟩ := m_tp hl h
  unfold tvN
  rw [e, m_cl (by omega)]
  exact ⟨rfl, h1, h2⟩
def incN (t : Nat → Nat) (v : Nat) : Nat → Nat := fun k => if k = v then t k + 1 else t k
/-- the most that are left, by a list of lies -/
def mlN (x : Int32) : List Nat → (Nat → Nat) → Nat → Nat
  | [], _, m => m
  | l :: L, t, m => mlN x L (incN t (tvN l x)) (if m < t (tvN l x) + 1 then t (tvN l x) + 1 else m)
theorem mlN_ge (x : Int32) : ∀ (L : List Nat) (t : Nat → Nat) (m : Nat), m ≤ mlN x L t m := by
  intro L
  induction L with
  | nil => intro t m; exact Nat.le_refl _
  | cons l L ih =>
    intro t m
    refine Nat.le_trans ?_ (ih _ _)
    split <;> omega
theorem mlN_pos (x : Int32) (l : Nat) (L : List Nat) (t : Nat → Nat) (m : Nat) : 1 ≤ mlN x (l :: L) t m := by
  refine Nat.le_trans ?_ (mlN_ge x L _ _)
  split <;> omega
theorem mlN_le (x : Int32) : ∀ (L : List Nat) (t : Nat → Nat) (m B : Nat), (∀ k, t k + L.length ≤ B) → m ≤ B → mlN x L t m ≤ B := by
  intro L
  induction L with
  | nil => intro t m B _ h; exact h
  | cons l L ih =>
    intro t m B h hm
    have h0 := h (tvN l x)
    rw [List.length_cons] at h0
    refine ih _ _ B (fun k => ?_) (by split <;> omega)
    have hk := h k
    rw [List.length_cons] at hk
    unfold incN
    split <;> omega
def TalR (ta : Nat → Int32) (t : Nat → Nat) : Prop := ∀ k, k < 7 → ta k = nI (t k)
theorem TalR.inc {ta : Nat → Int32} {t : Nat → Nat} {v : Nat} (h : TalR ta t) (hv : v < 7) : TalR (upd ta v (nI (t v + 1))) (incN t v) := by
  intro k hk
  unfold incN
  by_cases c : k = v
  · subst c; rw [upd_at, if_pos rfl]
  · rw [upd_ne c, if_neg c]; exact h k hk
theorem m_ml25 {F : Nat → Int32} {FL : List Nat} {x : Int32} (hF : ∀ j, j < FL.length → F j = nI (FL.getD j 0)) (hl : ∀ l ∈ FL, lieOk l = true) (h24 : FL.length ≤ 24) (hx : okRow x) (n : Nat) : ∀ (L : List Nat) (j : Nat), FL.drop j = L → j + L.length = FL.length → ∀ (t : Nat → Nat) (m : Nat) (ta : Nat → Int32), TalR ta t → (∀ k, t k + L.length ≤ 100) → m ≤ 100 → ∃ ta', f_X2_mostLeft_b25 F (nI FL.length) (n + L.length + 1) x (nI m) (nI j) ta = some (nI (mlN x L t m), ta') := by
  intro L
  induction L with
  | nil =>
    intro j hd hj t m ta _ _ _
    rw [List.length_nil] at hj
    rw [f_X2_mostLeft_b25_s, if_pos (by rw [m_le (by omega) (by omega)]; omega)]
    exact ⟨_, rfl⟩
  | cons l L ih =>
    intro j hd hj t m ta hT ht hm
    rw [List.length_cons] at hj
    have hjl : j < FL.length := by omega
    have e0 : FL[j] = l ∧ FL.drop (j + 1) = L := by
      have q := List.drop_eq_getElem_cons hjl
      rw [hd] at q
      exact ⟨(List.cons.inj q).1.symm, (List.cons.inj q).2.symm⟩
    have e1 : FL.getD j 0 = l := by rw [List.getD_eq_getElem?_getD, List.getElem?_eq_getElem hjl]; exact e0.1
    have hlo : lieOk l = true := hl l (by rw [← e0.1]; exact List.getElem_mem hjl)
    obtain ⟨e2, hv1, hv6⟩ := m_tv hlo hx
    have htv := ht (tvN l x)
    rw [List.length_cons] at htv
    rw [List.length_cons, show n + (L.length + 1) + 1 = n + L.length + 1 + 1 by omega, f_X2_mostLeft_b25_s, if_neg (by rw [m_le (by omega) (by omega)]; omega), m_chk (by omega) (by omega), m_cl (by omega), hF j hjl, e1, (m_tp hlo hx).1, Option.bind_some, m_isWithin, e2, if_pos (show (1 : Int32) ≤ nI (tvN l x) ∧ nI (tvN l x) ≤ 6 by rw [l1, l6, m_rng (by omega) (by omega) (by omega)]; omega), Option.bind_some, i10]
    simp (disch := omega) only [m_chk, m_cl]
    rw [hT (tvN l x) (by omega), nI_1, nI_1, upd_at]
    have e3 : (if nI m < nI (t (tvN l x) + 1) then nI (t (tvN l x) + 1) else nI m) = nI (if m < t (tvN l x) + 1 then t (tvN l x) + 1 else m) := by
      by_cases c : m < t (tvN l x) + 1
      · rw [if_pos (by rw [m_lt (by omega) (by omega)]; exact c), if_pos c]
      · rw [if_neg (by rw [m_lt (by omega) (by omega)]; exact c), if_neg c]
    rw [e3]
    exact ih (j + 1) e0.2 (by omega) (incN t (tvN l x)) _ _ (hT.inc (by omega)) (fun k => by have hk := ht k; rw [List.length_cons] at hk; unfold incN; split <;> omega) (by split <;> omega)
theorem m_ml2 {F : Nat → Int32} {z x : Int32} (n : Nat) (ta : Nat → Int32) : ∀ j, j ≤ 7 → f_X2_mostLeft_b2 F z (n + j + 1) x (nI (7 - j)) (cp (7 - j) (fun _ => 0) ta) = f_X2_mostLeft_b25 F z FU x 0 0 (cp 7 (fun _ => 0) ta) := by
  intro j
  induction j with
  | zero =>
    intro _
    rw [f_X2_mostLeft_b2_s, if_pos (by decide)]
  | succ j ih =>
    intro hj
    rw [show n + (j + 1) + 1 = n + j + 1 + 1 by omega, f_X2_mostLeft_b2_s, if_neg (by rw [l6, m_lt (by omega) (by omega)]; omega), m_chk (by omega) (by omega), m_cl (by omega), nI_1]
    have e := cp_s (7 - (j + 1)) (fun _ => (0 : Int32)) ta
    rw [e, show 7 - (j + 1) + 1 = 7 - j by omega]
    exact ih (by omega)
abbrev MLs (FL : List Nat) (x : Int32) : Nat := mlN x FL (fun _ => 0) 0
theorem MLs_le {FL : List Nat} {x : Int32} (h : FL.length ≤ 24) : MLs FL x ≤ 24 := mlN_le x FL _ 0 24 (fun _ => by omega) (by omega)
theorem m_mostLeft {F : Nat → Int32} {FL : List Nat} {x : Int32} (hF : ∀ j, j < FL.length → F j = nI (FL.getD j 0)) (hl : ∀ l ∈ FL, lieOk l = true) (h24 : FL.length ≤ 24) (hx : okRow x) (ta : Nat → Int32) : ∃ ta', f_X2_mostLeft F ta (nI FL.length) x = some (nI (MLs FL x), ta') := by
  have q := m_ml2 (F := F) (z := nI FL.length) (x := x) 1016 ta 7 (by omega)
  rw [show 7 - 7 = 0 from rfl, cp_0] at q
  unfold f_X2_mostLeft
  rw [show f_X2_mostLeft_b2 F (nI FL.length) FU x 0 ta = _ from q]
  obtain ⟨ta', e⟩ := m_ml25 hF hl h24 hx (1023 - FL.length) FL 0 rfl (by omega) (fun _ => 0) 0 (cp 7 (fun _ => 0) ta) (fun k hk => cp_lt hk) (fun k => by omega) (by omega)
  rw [show 1023 - FL.length + FL.length + 1 = FU by unfold FU; omega] at e
  exact ⟨ta', e⟩
theorem m_ml26 {a b c d : Nat → Int32} {w : Nat} {x : Int32} (hw : w ≤ 8) (hr : ∀ k, k < w → okRow (a k)) (h1 : ∀ k, k < 8 → a k = c k) (h2 : ∀ k, k < 8 → b k = d k) (hx : okRow x) (n : Nat) : ∀ (mm l : Nat), l + mm = 67 → ∀ (t : Nat → Nat) (m : Nat) (ta : Nat → Int32), TalR ta t → (∀ k, t k + mm ≤ 100) → m ≤ 100 → ∃ ta', f_X12_mostLeft_b26 c d (nI w) (n + mm + 1) x (nI m) (nI l) ta = some (nI (mlN x (flF a b w l mm) t m), ta') := by
  intro mm
  induction mm with
  | zero =>
    intro l hl t m ta _ _ _
    rw [f_X12_mostLeft_b26_s, if_pos (by rw [l66, m_lt (by omega) (by omega)]; omega)]
    exact ⟨_, rfl⟩
  | succ mm ih =>
    intro l hl t m ta hT ht hm
    rw [show n + (mm + 1) + 1 = n + mm + 1 + 1 by omega, f_X12_mostLeft_b26_s, if_neg (by rw [l66, m_lt (by omega) (by omega)]; omega), m_isFit hw hr h1 h2 (by omega), Option.bind_some, nI_1]
    cases e : fitP a b w l with
    | false =>
      rw [show bo false = 0 from rfl, i00, flF_f e]
      exact ih (l + 1) (by omega) t m ta hT (fun k => by have := ht k; omega) hm
    | true =>
      have hlo := fitP_lie e
      obtain ⟨e2, hv1, hv6⟩ := m_tv hlo hx
      have htv := ht (tvN l x)
      rw [show bo true = 1 from rfl, i10, flF_t e, (m_tp hlo hx).2.1, Option.bind_some, e2]
      simp (disch := omega) only [m_chk, m_cl]
      rw [hT (tvN l x) (by omega), nI_1, upd_at]
      show ∃ ta', _ = some (nI (mlN x (flF a b w (l + 1) mm) (incN t (tvN l x)) (if m < t (tvN l x) + 1 then t (tvN l x) + 1 else m)), ta')
      have hT' := hT.inc (v := tvN l x) (by omega)
      have ht' : ∀ k, incN t (tvN l x) k + mm ≤ 100 := fun k => by have hk := ht k; unfold incN; split <;> omega
      by_cases q : t (tvN l x) + 1 ≤ m
      · rw [if_pos (by rw [m_le (by omega) (by omega)]; exact q), if_neg (by omega)]
        exact ih (l + 1) (by omega) _ m _ hT' ht' hm
      · rw [if_neg (by rw [m_le (by omega) (by omega)]; exact q), if_pos (by omega)]
        exact ih (l + 1) (by omega) _ _ _ hT' ht' (by omega)
theorem m_ml4 {c d : Nat → Int32} {z x y : Int32} (n : Nat) (ta : Nat → Int32) : ∀ j, j ≤ 7 → f_X12_mostLeft_b4 c d z (n + j + 1) x y (nI (7 - j)) (cp (7 - j) (fun _ => 0) ta) = f_X12_mostLeft_b26 c d z FU x y 11 (cp 7 (fun _ => 0) ta) := by
  intro j
  induction j with
  | zero =>
    intro _
    rw [f_X12_mostLeft_b4_s, if_pos (by decide)]
  | succ j ih =>
    intro hj
    rw [show n + (j + 1) + 1 = n + j + 1 + 1 by omega, f_X12_mostLeft_b4_s, if_neg (by rw [l6, m_lt (by omega) (by omega)]; omega), m_chk (by omega) (by omega), m_cl (by omega), nI_1]
    have e := cp_s (7 - (j + 1)) (fun _ => (0 : Int32)) ta
    rw [e, show 7 - (j + 1) + 1 = 7 - j by omega]
    exact ih (by omega)
theorem m_mostLeft' {a b c d : Nat → Int32} {w : Nat} {x : Int32} (hw : w ≤ 8) (hr : ∀ k, k < w → okRow (a k)) (h1 : ∀ k, k < 8 → a k = c k) (h2 : ∀ k, k < 8 → b k = d k) (hx : okRow x) (ta : Nat → Int32) : ∃ ta', f_X12_mostLeft c d (nI w) ta x = some (nI (MLs (FLs a b w) x), ta') := by
  have q := m_ml4 (c := c) (d := d) (z := nI w) (x := x) (y := 0) 1016 ta 7 (by omega)
  rw [show 7 - 7 = 0 from rfl, cp_0] at q
  unfold f_X12_mostLeft
  rw [show f_X12_mostLeft_b4 c d (nI w) FU x 0 0 ta = _ from q]
  obtain ⟨ta', e⟩ := m_ml26 (b := b) hw hr h1 h2 hx 967 56 11 (by omega) (fun _ => 0) 0 (cp 7 (fun _ => 0) ta) (fun k hk => cp_lt hk) (fun k => by omega) (by omega)
  rw [FLs_66] at e
  exact ⟨ta', e⟩
theorem rowB_row {n : Nat} (h : rowB 6 n = true) : okRow (nI n) := by
  obtain ⟨k, h1, h2, h3⟩ := rowB_ok 6 n h
  exact ⟨n, k, ⟨h1, h2, h3⟩, rfl⟩
/-- the best row and what it leaves, from r on, m rows looked at -/
def bestN (FL : List Nat) : Nat → Nat → Nat → Nat → Nat × Nat
  | _, 0, b, e => (b, e)
  | r, m + 1, b, e => match rowB 6 r with
    | true => if MLs FL (nI r) < e then bestN FL (r + 1) m r (MLs FL (nI r)) else bestN FL (r + 1) m b e
    | false => bestN FL (r + 1) m b e
theorem bestN_ok (FL : List Nat) : ∀ m r b e, rowB 6 b = true → e = MLs FL (nI b) → rowB 6 (bestN FL r m b e).1 = true ∧ (bestN FL r m b e).2 = MLs FL (nI (bestN FL r m b e).1) ∧ (bestN FL r m b e).1 < 2 ^ 31 := by
  intro m
  induction m with
  | zero => intro r b e h1 h2; exact ⟨h1, h2, by have := rowB6 b h1; show b < _; omega⟩
  | succ m ih =>
    intro r b e h1 h2
    unfold bestN
    cases q : rowB 6 r with
    | false => exact ih (r + 1) b e h1 h2
    | true =>
      dsimp only
      split
      · exact ih (r + 1) r _ q rfl
      · exact ih (r + 1) b e h1 h2
theorem m_best {F : Nat → Int32} {FL : List Nat} (hF : ∀ j, j < FL.length → F j = nI (FL.getD j 0)) (hl : ∀ l ∈ FL, lieOk l = true) (h24 : FL.length ≤ 24) (n : Nat) : ∀ (m r b e : Nat) (ta : Nat → Int32), r + m = 134 → e ≤ 24 → ∃ ta', f_X2_bestRow_b10 F (nI FL.length) (n + m + 1) (nI b) (nI e) (nI r) ta = some (nI (bestN FL r m b e).1, ta') := by
  intro m
  induction m with
  | zero =>
    intro r b e ta hr he
    rw [f_X2_bestRow_b10_s, if_pos (by rw [l133, m_lt (by omega) (by omega)]; omega)]
    exact ⟨_, rfl⟩
  | succ m ih =>
    intro r b e ta hr he
    rw [show n + (m + 1) + 1 = n + m + 1 + 1 by omega, f_X2_bestRow_b10_s, if_neg (by rw [l133, m_lt (by omega) (by omega)]; omega), m_isRow r (by omega), Option.bind_some, nI_1]
    unfold bestN
    cases q : rowB 6 r with
    | false =>
      rw [show bo false = 0 from rfl, i00]
      exact ih (r + 1) b e ta (by omega) he
    | true =>
      obtain ⟨ta', e1⟩ := m_mostLeft hF hl h24 (rowB_row q) ta
      have hm := MLs_le (x := nI r) h24
      rw [show bo true = 1 from rfl, i10, e1, Option.bind_some]
      dsimp only
      by_cases c : MLs FL (nI r) < e
      · rw [if_neg (by rw [m_le (by omega) (by omega)]; omega), if_pos c]
        exact ih (r + 1) r _ ta' (by omega) hm
      · rw [if_pos (by rw [m_le (by omega) (by omega)]; omega), if_neg c]
        exact ih (r + 1) b e ta' (by omega) he
theorem m_best' {a b c d : Nat → Int32} {w : Nat} (hw : w ≤ 8) (hr : ∀ k, k < w → okRow (a k)) (h1 : ∀ k, k < 8 → a k = c k) (h2 : ∀ k, k < 8 → b k = d k) (n : Nat) (x : Int32) : ∀ (m r bb e : Nat) (ta : Nat → Int32), r + m = 134 → e ≤ 24 → ∃ ta', f_X12_ask_b25 c d (nI w) (n + m + 1) x (nI bb) (nI e) (nI r) ta = some (if (bestN (FLs a b w) r m bb e).2 = 0 then -6 else if x = 0 then nI (bestN (FLs a b w) r m bb e).1 else nI (bestN (FLs a b w) r m bb e).2, ta') := by
  intro m
  induction m with
  | zero =>
    intro r bb e ta hr he
    rw [f_X12_ask_b25_s, if_pos (by rw [l133, m_lt (by omega) (by omega)]; omega)]
    show ∃ ta', _ = some (if e = 0 then -6 else if x = 0 then nI bb else nI e, ta')
    by_cases c : e = 0
    · rw [if_pos (by rw [l0, m_eq (by omega) (by omega)]; exact c), if_pos c]
      exact ⟨_, rfl⟩
    · rw [if_neg (by rw [l0, m_eq (by omega) (by omega)]; exact c), if_neg c]
      by_cases q : x = 0
      · rw [if_pos q, if_pos q]; exact ⟨_, rfl⟩
      · rw [if_neg q, if_neg q]; exact ⟨_, rfl⟩
  | succ m ih =>
    intro r bb e ta hr' he
    rw [show n + (m + 1) + 1 = n + m + 1 + 1 by omega, f_X12_ask_b25_s, if_neg (by rw [l133, m_lt (by omega) (by omega)]; omega), m_isRow' r (by omega), Option.bind_some]
    unfold bestN
    cases q : rowB 6 r with
    | false =>
      rw [show bo false = 0 from rfl, i00, if_pos (show nI e ≤ nI e by rw [m_le (by omega) (by omega)]; omega)]
      unfold f_X12_ask_b65 f_X12_less
      rw [if_pos (show nI e ≤ nI e by rw [m_le (by omega) (by omega)]; omega), Option.bind_some, nI_1]
      exact ih (r + 1) bb e ta (by omega) he
    | true =>
      obtain ⟨ta', e1⟩ := m_mostLeft' (b := b) hw hr h1 h2 (rowB_row q) ta
      have hm := MLs_le (x := nI r) (FLs_len a b w)
      rw [show bo true = 1 from rfl, i10, e1, Option.bind_some]
      dsimp only
      unfold f_X12_ask_b65 f_X12_less
      by_cases c : MLs (FLs a b w) (nI r) < e
      · rw [if_neg (show ¬ nI e ≤ nI (MLs (FLs a b w) (nI r)) by rw [m_le (by omega) (by omega)]; omega), if_pos c, if_pos (show nI (MLs (FLs a b w) (nI r)) ≤ nI e by rw [m_le (by omega) (by omega)]; omega), Option.bind_some, nI_1]
        exact ih (r + 1) r _ ta' (by omega) hm
      · rw [if_pos (show nI e ≤ nI (MLs (FLs a b w) (nI r)) by rw [m_le (by omega) (by omega)]; omega), if_neg c]
        have e2 : (if nI (MLs (FLs a b w) (nI r)) ≤ nI e then some (nI (MLs (FLs a b w) (nI r))) else some (nI e)) = some (nI e) := by
          by_cases z : MLs (FLs a b w) (nI r) ≤ e
          · rw [if_pos (by rw [m_le (by omega) (by omega)]; exact z), show MLs (FLs a b w) (nI r) = e by omega]
          · rw [if_neg (by rw [m_le (by omega) (by omega)]; exact z)]
        rw [e2, Option.bind_some, nI_1]
        exact ih (r + 1) bb e ta' (by omega) he
theorem bestN_pos (FL : List Nat) (hne : FL ≠ []) : ∀ m r b e, 1 ≤ e → 1 ≤ (bestN FL r m b e).2 := by
  intro m
  induction m with
  | zero => intro r b e h; exact h
  | succ m ih =>
    intro r b e h
    unfold bestN
    cases q : rowB 6 r with
    | false => exact ih (r + 1) b e h
    | true =>
      dsimp only
      split
      · refine ih (r + 1) r _ ?_
        match FL, hne with
        | l :: L, _ => exact mlN_pos _ l L _ 0
      · exact ih (r + 1) b e h
theorem bestN_29 (FL : List Nat) (m b e : Nat) : bestN FL 2 (m + 8) b e = bestN FL 10 m b e := rfl
theorem bestN_nil : ∀ m r b, (bestN [] r m b 0).2 = 0 := by
  intro m
  induction m with
  | zero => intro r b; rfl
  | succ m ih =>
    intro r b
    unfold bestN
    cases q : rowB 6 r with
    | false => exact ih (r + 1) b
    | true =>
      dsimp only
      rw [if_neg (Nat.not_lt_zero _)]
      exact ih (r + 1) b
theorem m_ask {n n' : Int32} {a b c d : Nat → Int32} (hS : SigR n a b c d n') (f ta : Nat → Int32) (z : Int32) (by_ : Nat → Int32) (x : Int32) : ∃ oc om, f_X11_ask a b n f ta z x = some oc ∧ f_X12_ask c d n' by_ x = some om ∧ oc.1 = om.1 := by
  obtain ⟨h1, h2, rfl, w, hw, rfl, hr⟩ := hS
  have hlen := FLs_len a b w
  unfold f_X11_ask f_X12_ask
  rw [m_isWithin, m_in32 (a := 0) (b := 1) (lo := 0) (hi := 1) rfl rfl, Option.bind_some, Option.bind_some]
  by_cases hx : 0 ≤ x ∧ x ≤ 1
  · have row1 : rowB 6 1 = true := by decide
    obtain ⟨tb, e1⟩ := m_mostLeft' (b := b) hw hr h1 h2 (show okRow 1 from rowB_row row1) by_
    have hm1 := MLs_le (x := 1) hlen
    obtain ⟨tb2, e2⟩ := m_best' (b := b) hw hr h1 h2 899 x 124 10 1 (MLs (FLs a b w) 1) tb (by omega) hm1
    rw [if_pos hx, i10, i10, m_search hw hr, Option.bind_some, e1, Option.bind_some]
    dsimp only
    rw [show f_X12_ask_b25 c d (nI w) FU x 1 (nI (MLs (FLs a b w) 1)) 10 tb = _ from e2]
    by_cases hn : (FLs a b w).length = 0
    · have e3 : FLs a b w = [] := List.eq_nil_of_length_eq_zero hn
      rw [e3, if_pos (show nI ([] : List Nat).length = 0 from rfl), if_pos (show (bestN [] 10 124 1 (MLs [] 1)).2 = 0 from bestN_nil 124 10 1)]
      exact ⟨_, _, rfl, rfl, rfl⟩
    · have hne : FLs a b w ≠ [] := fun q => hn (by rw [q]; rfl)
      have hF : ∀ j, j < (FLs a b w).length → appL f 0 (FLs a b w) j = nI ((FLs a b w).getD j 0) := by
        intro j hj
        unfold appL
        rw [if_pos (by omega), Nat.sub_zero]
      have hl : ∀ l ∈ FLs a b w, lieOk l = true := fun l h => flF_mem a b w 54 12 l h
      have hpos : 1 ≤ (bestN (FLs a b w) 10 124 1 (MLs (FLs a b w) 1)).2 := bestN_pos _ hne _ _ _ _ (by
        match FLs a b w, hne with
        | l :: L, _ => exact mlN_pos _ l L _ 0)
      obtain ⟨t1, q1⟩ := m_mostLeft hF hl hlen (show okRow 1 from rowB_row row1) ta
      obtain ⟨t2, q2⟩ := m_best hF hl hlen 891 132 2 1 (MLs (FLs a b w) 1) t1 (by omega) hm1
      rw [bestN_29 _ 124] at q2
      obtain ⟨b1, b2, b3⟩ := bestN_ok (FLs a b w) 124 10 1 (MLs (FLs a b w) 1) row1 rfl
      rw [if_neg (show ¬ nI (FLs a b w).length = 0 by rw [l0, m_eq (by omega) (by omega)]; exact hn), if_neg (show ¬ (bestN (FLs a b w) 10 124 1 (MLs (FLs a b w) 1)).2 = 0 by omega)]
      unfold f_X2_bestRow
      rw [q1, Option.bind_some]
      dsimp only
      rw [show f_X2_bestRow_b10 (appL f 0 (FLs a b w)) (nI (FLs a b w).length) FU 1 (nI (MLs (FLs a b w) 1)) 2 t1 = _ from q2, Option.bind_some]
      dsimp only
      by_cases c0 : x = 0
      · rw [if_pos c0, if_pos c0]
        exact ⟨_, _, rfl, rfl, rfl⟩
      · obtain ⟨t3, q3⟩ := m_mostLeft hF hl hlen (rowB_row b1) t2
        rw [if_neg c0, if_neg c0, q3, Option.bind_some]
        exact ⟨_, _, rfl, rfl, by dsimp only; rw [b2]⟩
  · rw [if_neg hx, i00, i00]
    exact ⟨_, _, rfl, rfl, rfl⟩
