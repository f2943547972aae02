/-! ===== pure part 2: beetles ===== -/
/-- the figure of a beetle that is drawn by the number f -/
def dgt (d : Int32) (f : Nat) : Int32 := (d / sU f) - (d / sU f) / 10 * 10
theorem m_count {f : Nat} (h1 : 1 ≤ f) (h6 : f ≤ 6) (d : Int32) : f_X0_count d (nI f) = some (dgt d f) := by
  match f, h1, h6 with
  | 1, _, _ => rfl
  | 2, _, _ => rfl
  | 3, _, _ => rfl
  | 4, _, _ => rfl
  | 5, _, _ => rfl
  | 6, _, _ => rfl
theorem m_fig {k : Nat} (h : k < 6) (d : Int32) : f_X12_figureOf d (nI k) = some (dgt d (6 - k)) := by
  unfold f_X12_figureOf
  match k, h with
  | 0, _ => rw [show f_X12_tenTo (5 - nI 0) = some 100000 from by decide +kernel]; rfl
  | 1, _ => rw [show f_X12_tenTo (5 - nI 1) = some 10000 from by decide +kernel]; rfl
  | 2, _ => rw [show f_X12_tenTo (5 - nI 2) = some 1000 from by decide +kernel]; rfl
  | 3, _ => rw [show f_X12_tenTo (5 - nI 3) = some 100 from by decide +kernel]; rfl
  | 4, _ => rw [show f_X12_tenTo (5 - nI 4) = some 10 from by decide +kernel]; rfl
  | 5, _ => rw [show f_X12_tenTo (5 - nI 5) = some 1 from by decide +kernel]; rfl
theorem m_drawnBy {f : Nat} (h1 : 1 ≤ f) (h6 : f ≤ 6) (d : Int32) : f_X12_drawnBy d (nI f) = some (d + sU f) := by
  unfold f_X12_drawnBy
  match f, h1, h6 with
  | 1, _, _ => rw [show f_X12_tenTo (nI 1 - 1) = some 1 from by decide +kernel]; rfl
  | 2, _, _ => rw [show f_X12_tenTo (nI 2 - 1) = some 10 from by decide +kernel]; rfl
  | 3, _, _ => rw [show f_X12_tenTo (nI 3 - 1) = some 100 from by decide +kernel]; rfl
  | 4, _, _ => rw [show f_X12_tenTo (nI 4 - 1) = some 1000 from by decide +kernel]; rfl
  | 5, _, _ => rw [show f_X12_tenTo (nI 5 - 1) = some 10000 from by decide +kernel]; rfl
  | 6, _, _ => rw [show f_X12_tenTo (nI 6 - 1) = some 100000 from by decide +kernel]; rfl
def ptsI (d : Int32) : Int32 := dgt d 1 + dgt d 2 + dgt d 3 + dgt d 4 + dgt d 5 + dgt d 6
theorem m_parts (d : Int32) : f_X0_parts d = some (ptsI d) := by
  show f_X0_parts_b4 (1017 + 1 + 1 + 1 + 1 + 1 + 1 + 1) d 0 (nI 1) = _
  rw [f_X0_parts_b4_s, if_neg (show ¬ (6 : Int32) < nI 1 by decide), m_count (f := 1) (by omega) (by omega), Option.bind_some, nI_1]
  rw [f_X0_parts_b4_s, if_neg (show ¬ (6 : Int32) < nI 2 by decide), m_count (f := 2) (by omega) (by omega), Option.bind_some, nI_1]
  rw [f_X0_parts_b4_s, if_neg (show ¬ (6 : Int32) < nI 3 by decide), m_count (f := 3) (by omega) (by omega), Option.bind_some, nI_1]
  rw [f_X0_parts_b4_s, if_neg (show ¬ (6 : Int32) < nI 4 by decide), m_count (f := 4) (by omega) (by omega), Option.bind_some, nI_1]
  rw [f_X0_parts_b4_s, if_neg (show ¬ (6 : Int32) < nI 5 by decide), m_count (f := 5) (by omega) (by omega), Option.bind_some, nI_1]
  rw [f_X0_parts_b4_s, if_neg (show ¬ (6 : Int32) < nI 6 by decide), m_count (f := 6) (by omega) (by omega), Option.bind_some, nI_1]
  rw [f_X0_parts_b4_s, if_pos (by decide)]
  unfold ptsI
  simp
theorem m_partsOf (d : Int32) : f_X12_partsOf d = some (ptsI d) := by
  show f_X12_partsOf_b4 (1017 + 1 + 1 + 1 + 1 + 1 + 1 + 1) d 0 (nI 0) = _
  rw [f_X12_partsOf_b4_s, if_neg (show ¬ (6 : Int32) ≤ nI 0 by decide), m_fig (k := 0) (by omega), Option.bind_some, nI_1]
  rw [f_X12_partsOf_b4_s, if_neg (show ¬ (6 : Int32) ≤ nI 1 by decide), m_fig (k := 1) (by omega), Option.bind_some, nI_1]
  rw [f_X12_partsOf_b4_s, if_neg (show ¬ (6 : Int32) ≤ nI 2 by decide), m_fig (k := 2) (by omega), Option.bind_some, nI_1]
  rw [f_X12_partsOf_b4_s, if_neg (show ¬ (6 : Int32) ≤ nI 3 by decide), m_fig (k := 3) (by omega), Option.bind_some, nI_1]
  rw [f_X12_partsOf_b4_s, if_neg (show ¬ (6 : Int32) ≤ nI 4 by decide), m_fig (k := 4) (by omega), Option.bind_some, nI_1]
  rw [f_X12_partsOf_b4_s, if_neg (show ¬ (6 : Int32) ≤ nI 5 by decide), m_fig (k := 5) (by omega), Option.bind_some, nI_1]
  rw [f_X12_partsOf_b4_s, if_pos (by decide)]
  unfold ptsI
  simp only [Nat.reduceSub, Nat.sub_zero]
  congr 1
  simp only [Int32.zero_add]
  ac_rfl
/-- what a number needs: the number by which that is drawn; 0 nothing -/
def ndf (f : Nat) : Nat := if f = 6 then 0 else if 3 ≤ f then 6 else 5
def hasN (d : Int32) (f : Nat) : Prop := f = 6 ∨ ¬ dgt d (ndf f) ≤ 0
theorem m_has {f : Nat} (h1 : 1 ≤ f) (h6 : f ≤ 6) (d : Int32) : ∃ r : Int32, f_X0_hasWhatItNeeds d (nI f) = some r ∧ ((r = 1 ∧ hasN d f) ∨ (r = 0 ∧ ¬ hasN d f)) := by
  have key : ∀ (g : Nat) (y : Int32), (f = 6 ∨ g = ndf f) → f ≠ 6 → 1 ≤ g → g ≤ 6 → y = nI g → ∃ r : Int32, ((f_X0_count d y).bind fun z3 => if z3 ≤ 0 then some (0 : Int32) else some 1) = some r ∧ ((r = 1 ∧ hasN d f) ∨ (r = 0 ∧ ¬ hasN d f)) := by
    intro g y h hf hg1 hg6 hy
    rw [hy, m_count hg1 hg6, Option.bind_some]
    have hg : g = ndf f := h.resolve_left hf
    by_cases c : dgt d g ≤ 0
    · rw [if_pos c]
      exact ⟨0, rfl, Or.inr ⟨rfl, fun q => q.elim hf (fun z => z (hg ▸ c))⟩⟩
    · rw [if_neg c]
      exact ⟨1, rfl, Or.inl ⟨rfl, Or.inr (hg ▸ c)⟩⟩
  match f, h1, h6 with
  | 1, _, _ => exact key 5 5 (Or.inr rfl) (by omega) (by omega) (by omega) rfl
  | 2, _, _ => exact key 5 5 (Or.inr rfl) (by omega) (by omega) (by omega) rfl
  | 3, _, _ => exact key 6 6 (Or.inr rfl) (by omega) (by omega) (by omega) rfl
  | 4, _, _ => exact key 6 6 (Or.inr rfl) (by omega) (by omega) (by omega) rfl
  | 5, _, _ => exact key 6 6 (Or.inr rfl) (by omega) (by omega) (by omega) rfl
  | 6, _, _ => exact ⟨1, rfl, Or.inl ⟨rfl, Or.inl rfl⟩⟩
/-- whether a part can be drawn by f -/
def canD (d : Int32) (f : Nat) : Prop := dgt d f < sM f ∧ hasN d f
theorem m_draw {f : Nat} (h1 : 1 ≤ f) (h6 : f ≤ 6) (d : Int32) : (canD d f ∧ f_X0_draw d (nI f) = some (d + sU f)) ∨ (¬ canD d f ∧ f_X0_draw d (nI f) = some d) := by
  unfold f_X0_draw
  rw [m_isWithin, Option.bind_some, if_pos (⟨by rw [l1, m_le (by omega) (by omega)]; exact h1, by rw [l6, m_le (by omega) (by omega)]; exact h6⟩ : (1 : Int32) ≤ nI f ∧ nI f ≤ 6), i10, m_count h1 h6, Option.bind_some, m_chk (by omega) (by omega), m_cl (by omega)]
  by_cases c : dgt d f < sM f
  · rw [if_pos c]
    obtain ⟨r, e, h | h⟩ := m_has h1 h6 d
    · rw [e, Option.bind_some, h.1, i10, m_chk (by omega) (by omega)]
      exact Or.inl ⟨⟨c, h.2⟩, rfl⟩
    · rw [e, Option.bind_some, h.1, i00]
      exact Or.inr ⟨fun q => h.2 q.2, rfl⟩
  · rw [if_neg c]
    exact Or.inr ⟨fun q => c q.1, rfl⟩
theorem m_most {mo : Nat → Int32} (h : MostR mo) {f : Nat} (h1 : 1 ≤ f) (h6 : f ≤ 6) : mo (6 - f) = sM f := by
  obtain ⟨a, b, c, d, e, g⟩ := h
  match f, h1, h6 with
  | 1, _, _ => exact g
  | 2, _, _ => exact e
  | 3, _, _ => exact d
  | 4, _, _ => exact c
  | 5, _, _ => exact b
  | 6, _, _ => exact a
theorem m_nlt {a b : Int32} : ¬ a < b ↔ b ≤ a := by
  rw [Int32.lt_iff_toInt_lt, Int32.le_iff_toInt_le]; omega
theorem m_canDraw {mo : Nat → Int32} (hm : MostR mo) {f : Nat} (h1 : 1 ≤ f) (h6 : f ≤ 6) (d : Int32) : (canD d f ∧ f_X12_canDraw mo d (nI f) = some 1) ∨ (¬ canD d f ∧ f_X12_canDraw mo d (nI f) = some 0) := by
  unfold f_X12_canDraw
  rw [show (6 : Int32) - nI f = nI (6 - f) from pk_sub h6, m_fig (by omega), Option.bind_some, m_chk (by omega) (by omega), m_cl (by omega), m_most hm h1 h6, show 6 - (6 - f) = f by omega]
  by_cases c : dgt d f < sM f
  · rw [if_neg (fun q => absurd c (m_nlt.mpr q))]
    have key : ∀ (k g : Nat), f ≠ 6 → g = ndf f → k < 6 → 6 - k = g → f_X12_needOf (nI (6 - f)) = some (nI k) → (canD d f ∧ ((f_X12_needOf (nI (6 - f))).bind fun z5 => if z5 < 0 then some (1 : Int32) else (f_X12_needOf (nI (6 - f))).bind fun z8 => (f_X12_figureOf d z8).bind fun z10 => if z10 ≤ 0 then some 0 else some 1) = some 1) ∨ (¬ canD d f ∧ ((f_X12_needOf (nI (6 - f))).bind fun z5 => if z5 < 0 then some (1 : Int32) else (f_X12_needOf (nI (6 - f))).bind fun z8 => (f_X12_figureOf d z8).bind fun z10 => if z10 ≤ 0 then some 0 else some 1) = some 0) := by
      intro k g hf hg hk hkg e
      rw [e, Option.bind_some, if_neg (nI_pos (by omega)), Option.bind_some, m_fig hk, Option.bind_some, hkg]
      by_cases z : dgt d g ≤ 0
      · rw [if_pos z]
        exact Or.inr ⟨fun q => q.2.elim hf (fun y => y (hg ▸ z)), rfl⟩
      · rw [if_neg z]
        exact Or.inl ⟨⟨c, Or.inr (hg ▸ z)⟩, rfl⟩
    match f, h1, h6 with
    | 1, _, _ => exact key 1 5 (by omega) rfl (by omega) rfl rfl
    | 2, _, _ => exact key 1 5 (by omega) rfl (by omega) rfl rfl
    | 3, _, _ => exact key 0 6 (by omega) rfl (by omega) rfl rfl
    | 4, _, _ => exact key 0 6 (by omega) rfl (by omega) rfl rfl
    | 5, _, _ => exact key 0 6 (by omega) rfl (by omega) rfl rfl
    | 6, _, _ => exact Or.inl ⟨⟨c, Or.inl rfl⟩, rfl⟩
  · rw [if_pos (m_nlt.mp c)]
    exact Or.inr ⟨fun q => c q.1, rfl⟩
