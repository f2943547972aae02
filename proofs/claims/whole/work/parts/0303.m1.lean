/-! ===== pure part 1: numbers, ranges, the relation between class and reference ===== -/
theorem i10 {α : Type} (a b : α) : (if (1 : Int32) = 0 then a else b) = b := if_neg (by decide)
theorem i00 {α : Type} (a b : α) : (if (0 : Int32) = 0 then a else b) = a := if_pos rfl
theorem m_lt {a b : Nat} (ha : a < 2 ^ 31) (hb : b < 2 ^ 31) : (nI a < nI b) = (a < b) := propext (nI_ltI ha hb)
theorem m_le {a b : Nat} (ha : a < 2 ^ 31) (hb : b < 2 ^ 31) : (nI a ≤ nI b) = (a ≤ b) := propext (nI_leI ha hb)
theorem m_eq {a b : Nat} (ha : a < 2 ^ 31) (hb : b < 2 ^ 31) : (nI a = nI b) = (a = b) := propext (nI_eq ha hb)
theorem l0 : (0 : Int32) = nI 0 := rfl
theorem l1 : (1 : Int32) = nI 1 := rfl
theorem l2 : (2 : Int32) = nI 2 := rfl
theorem l3 : (3 : Int32) = nI 3 := rfl
theorem l4 : (4 : Int32) = nI 4 := rfl
theorem l5 : (5 : Int32) = nI 5 := rfl
theorem l6 : (6 : Int32) = nI 6 := rfl
theorem l7 : (7 : Int32) = nI 7 := rfl
theorem l8 : (8 : Int32) = nI 8 := rfl
theorem l9 : (9 : Int32) = nI 9 := rfl
theorem l10 : (10 : Int32) = nI 10 := rfl
theorem l12 : (12 : Int32) = nI 12 := rfl
theorem l20 : (20 : Int32) = nI 20 := rfl
theorem l24 : (24 : Int32) = nI 24 := rfl
theorem l30 : (30 : Int32) = nI 30 := rfl
theorem l33 : (33 : Int32) = nI 33 := rfl
theorem l35 : (35 : Int32) = nI 35 := rfl
theorem l39 : (39 : Int32) = nI 39 := rfl
theorem l46 : (46 : Int32) = nI 46 := rfl
theorem l49 : (49 : Int32) = nI 49 := rfl
theorem l60 : (60 : Int32) = nI 60 := rfl
theorem l65 : (65 : Int32) = nI 65 := rfl
theorem l66 : (66 : Int32) = nI 66 := rfl
theorem l74 : (74 : Int32) = nI 74 := rfl
theorem l75 : (75 : Int32) = nI 75 := rfl
theorem l99 : (99 : Int32) = nI 99 := rfl
theorem l133 : (133 : Int32) = nI 133 := rfl
theorem l141 : (141 : Int32) = nI 141 := rfl
theorem l999 : (999 : Int32) = nI 999 := rfl
theorem l65537 : (65537 : Int32) = nI 65537 := rfl
theorem l111622 : (111622 : Int32) = nI 111622 := rfl
theorem l100 : (100 : Int32) = nI 100 := rfl
theorem l1000 : (1000 : Int32) = nI 1000 := rfl
theorem l10000 : (10000 : Int32) = nI 10000 := rfl
theorem l100000 : (100000 : Int32) = nI 100000 := rfl
theorem m_isWithin (x a b : Int32) : f_X11_isWithin x a b = some (if a ≤ x ∧ x ≤ b then 1 else 0) := by
  unfold f_X11_isWithin
  simp only [Int32.lt_iff_toInt_lt, Int32.le_iff_toInt_le]
  repeat' split
  all_goals first | rfl | (exfalso; omega)
theorem m_cmp_lt (x y : Int64) : lg_cmp x y < 0 ↔ x < y := by
  unfold lg_cmp
  simp only [gt_iff_lt, Int64.lt_iff_toInt_lt, ← Int64.toInt_inj]
  repeat' split
  · exact ⟨fun h => absurd h (by decide), fun h => by omega⟩
  · exact ⟨fun h => absurd h (by decide), fun h => by omega⟩
  · exact ⟨fun _ => by omega, fun _ => by decide⟩
theorem m_cmp_gt (x y : Int64) : 0 < lg_cmp x y ↔ y < x := by
  unfold lg_cmp
  simp only [gt_iff_lt, Int64.lt_iff_toInt_lt, ← Int64.toInt_inj]
  repeat' split
  · exact ⟨fun _ => by omega, fun _ => by decide⟩
  · exact ⟨fun h => absurd h (by decide), fun h => by omega⟩
  · exact ⟨fun h => absurd h (by decide), fun h => by omega⟩
theorem m_cmp_eq (x y : Int64) : lg_cmp x y = 0 ↔ x = y := by
  unfold lg_cmp
  simp only [gt_iff_lt, Int64.lt_iff_toInt_lt, ← Int64.toInt_inj]
  repeat' split
  · exact ⟨fun h => absurd h (by decide), fun h => by omega⟩
  · exact ⟨fun _ => by omega, fun _ => rfl⟩
  · exact ⟨fun h => absurd h (by decide), fun h => by omega⟩
theorem m_in (x a b : Int64) : f_X12_in x a b = some (if a ≤ x ∧ x ≤ b then 1 else 0) := by
  unfold f_X12_in
  simp only [m_cmp_lt, m_cmp_gt, Int64.lt_iff_toInt_lt, Int64.le_iff_toInt_le]
  repeat' split
  all_goals first | rfl | (exfalso; omega)
theorem m_in32 {x a b : Int32} {lo hi : Int64} (h1 : lo = a.toInt64) (h2 : hi = b.toInt64) : f_X12_in (Int32.toInt64 x) lo hi = some (if a ≤ x ∧ x ≤ b then 1 else 0) := by
  rw [m_in, h1, h2]
  simp only [Int64.le_iff_toInt_le, Int32.le_iff_toInt_le, Int32.toInt_toInt64]
theorem m_bz01 {α : Type} {c : Prop} [Decidable c] {k : Option α} : bz (if c then 1 else 0) k = k := by
  unfold bz
  split <;> simp
theorem m_isPlayer (x : Int32) : f_X11_isPlayer x = some (if 0 ≤ x ∧ x ≤ 5 then 1 else 0) := by
  unfold f_X11_isPlayer
  rw [m_isWithin, Option.bind_some, m_bz01]
theorem m_isPlayer' (x : Int32) : f_X12_isPlayer x = some (if 0 ≤ x ∧ x ≤ 5 then 1 else 0) := by
  unfold f_X12_isPlayer
  rw [m_in32 (a := 0) (b := 5) (lo := 0) (hi := 5) rfl rfl, Option.bind_some, m_bz01]
theorem m_of {x M : Int32} {n : Nat} (hM : M.toInt = n) (h : 0 ≤ x ∧ x ≤ M) : ∃ j : Nat, j ≤ n ∧ x = nI j :=
  nI_of2 hM (by have := h.1; rw [Int32.le_iff_toInt_le] at this; rw [Int32.lt_iff_toInt_lt]; omega) h.2
theorem m_chk {α : Type} {i n : Nat} {k : Option α} (h : i < n) (hn : n < 2 ^ 31) : chk (nI i) n k = k := by
  unfold chk
  rw [if_neg (vp_in_nI h hn)]
theorem m_cl {i : Nat} (h : i < 2 ^ 31) : Int32.toNatClampNeg (nI i) = i := nI_clamp h
/-- whether a place is in: a bit -/
def bI (ib : Int32) (k : Nat) : Int32 := if (ib &&& ((1 : Int32) <<< (nI k &&& 31))) = 0 then 0 else 1
theorem bI_01 (ib : Int32) (k : Nat) : bI ib k = 0 ∨ bI ib k = 1 := by
  unfold bI
  split
  · exact Or.inl rfl
  · exact Or.inr rfl
theorem m_isIn (ib : Int32) (k : Nat) : f_X9_isIn ib (nI k) = some (bI ib k) := by
  unfold f_X9_isIn bI
  split <;> rfl
/-- the table of the class (drawn, points, in, holder, game) and that of the reference -/
def TabR (ib ho ga : Int32) (d p : Nat → Int32) (b pt inn : Nat → Int32) (ho' ga' : Int32) : Prop :=
  (∀ k, k < 6 → d k = b k) ∧ (∀ k, k < 6 → p k = pt k) ∧ (∀ k, k < 6 → inn k = bI ib k) ∧ ho = ho' ∧ ga = ga' ∧ ∃ w h gm : Nat, w < 64 ∧ ib = nI w ∧ h < 6 ∧ ho = nI h ∧ bI ib h = 1 ∧ gm ≤ 99 ∧ ga = nI gm
def PadR (n : Int32) (sg pd : Nat → Int32) (n' : Int32) : Prop := (∀ k, k < 60 → sg k = pd k) ∧ n = n' ∧ ∃ w : Nat, w ≤ 60 ∧ n = nI w
/-- a row of ways: a 1 ahead, behind it up to six figures of 0 to 3 -/
def okR (r k : Nat) : Prop := k ≤ 6 ∧ r / 10 ^ k = 1 ∧ ∀ j, j < k → r / 10 ^ j % 10 < 4
def okRow (x : Int32) : Prop := ∃ r k : Nat, okR r k ∧ x = nI r
def SigR (n : Int32) (rw_ tp : Nat → Int32) (rw' tp' : Nat → Int32) (n' : Int32) : Prop := (∀ k, k < 8 → rw_ k = rw' k) ∧ (∀ k, k < 8 → tp k = tp' k) ∧ n = n' ∧ ∃ w : Nat, w ≤ 8 ∧ n = nI w ∧ ∀ k, k < w → okRow (rw_ k)
def ImgR (kept : Int32) (ib ho ga : Int32) (d p : Nat → Int32) (n : Int32) (rw_ tp : Nat → Int32) (kp : Nat → Int32) (base : Nat) (isK : Int32) : Prop :=
  kept = isK ∧ (kept = 0 ∨ kept = 1 ∧ TabR ib ho ga d p (fun k => kp (base + 3 + k)) (fun k => kp (base + 9 + k)) (fun k => kp (base + 15 + k)) (kp base) (kp (base + 1)) ∧ SigR n rw_ tp (fun k => kp (base + 21 + k)) (fun k => kp (base + 29 + k)) (kp (base + 2)))
def MostR (mo : Nat → Int32) : Prop := mo 0 = 1 ∧ mo 1 = 1 ∧ mo 2 = 1 ∧ mo 3 = 6 ∧ mo 4 = 2 ∧ mo 5 = 2
theorem upd_at {f : Nat → Int32} {k : Nat} {x : Int32} : upd f k x k = x := pk_us
theorem upd_ne {f : Nat → Int32} {k j : Nat} {x : Int32} (h : j ≠ k) : upd f k x j = f j := pk_un h
theorem upd_E {N : Nat} {f g : Nat → Int32} (h : ∀ k, k < N → f k = g k) (j : Nat) (x : Int32) : ∀ k, k < N → upd f j x k = upd g j x k := by
  intro k hk
  by_cases e : k = j
  · subst e; rw [upd_at, upd_at]
  · rw [upd_ne e, upd_ne e]; exact h k hk
theorem m_die {ib ho ga : Int32} {d p b pt inn : Nat → Int32} {ho' ga' : Int32} (hT : TabR ib ho ga d p b pt inn ho' ga') (x : Int32) : ∃ oc om, f_X11_die ib ho x = some oc ∧ f_X12_die inn ho' x = some om ∧ oc.1 = om.1 ∧ TabR ib oc.2 ga d p b pt inn om.2 ga' := by
  obtain ⟨h1, h2, h3, rfl, rfl, w, h, gm, hw, hib, hh, hho, hbi, hg, hga⟩ := hT
  unfold f_X11_die f_X12_die
  rw [m_isPlayer, m_isPlayer', Option.bind_some, Option.bind_some]
  by_cases hx : 0 ≤ x ∧ x ≤ 5
  · rw [if_pos hx, if_neg (by decide), if_neg (by decide)]
    obtain ⟨j, hj, rfl⟩ := m_of (n := 5) (by decide) hx
    rw [m_isIn, Option.bind_some, m_chk (by omega) (by omega), m_cl (by omega), h3 j (by omega)]
    rcases bI_01 ib j with e | e
    · rw [e, if_pos rfl]
      exact ⟨_, _, rfl, rfl, rfl, h1, h2, h3, rfl, rfl, w, h, gm, hw, hib, hh, hho, hbi, hg, hga⟩
    · rw [e, if_neg (by decide)]
      exact ⟨_, _, rfl, rfl, rfl, h1, h2, h3, rfl, rfl, w, j, gm, hw, hib, by omega, rfl, e, hg, hga⟩
  · rw [if_neg hx, if_pos rfl, if_pos rfl]
    exact ⟨_, _, rfl, rfl, rfl, h1, h2, h3, rfl, rfl, w, h, gm, hw, hib, hh, hho, hbi, hg, hga⟩
theorem m_say {n n' : Int32} {sg pd : Nat → Int32} (hP : PadR n sg pd n') (x : Int32) : ∃ oc om, f_X11_say sg n x = some oc ∧ f_X12_say pd n' x = some om ∧ oc.1 = om.1 ∧ PadR oc.2.2 oc.2.1 om.2.1 om.2.2 := by
  obtain ⟨h1, rfl, w, hw, rfl⟩ := hP
  unfold f_X11_say f_X12_say f_X5_add
  rw [m_isWithin, m_in32 (a := 33) (b := 126) (lo := 33) (hi := 126) rfl rfl, Option.bind_some, Option.bind_some]
  by_cases hx : (33 : Int32) ≤ x ∧ x ≤ 126
  · rw [if_pos hx, i10, i10]
    by_cases e : w = 60
    · subst e
      exact ⟨_, _, rfl, rfl, rfl, h1, rfl, 60, hw, rfl⟩
    · have hlt : w < 60 := by omega
      simp (disch := omega) only [l60, m_lt, m_eq, hlt, e, if_true, if_false, m_chk, m_cl]
      exact ⟨_, _, rfl, rfl, rfl, upd_E h1 w x, rfl, w + 1, by omega, nI_1 w⟩
  · rw [if_neg hx, i00, i00]
    exact ⟨_, _, rfl, rfl, rfl, h1, rfl, w, hw, rfl⟩
theorem m_wipe {n n' : Int32} {sg pd : Nat → Int32} (hP : PadR n sg pd n') : ∃ oc om, f_X11_wipe n = some oc ∧ f_X12_wipe n' = some om ∧ oc.1 = om.1 ∧ PadR oc.2 sg pd om.2 := by
  obtain ⟨h1, rfl, w, hw, rfl⟩ := hP
  exact ⟨_, _, rfl, rfl, rfl, h1, rfl, 0, by omega, rfl⟩
theorem m_forget {n n' : Int32} {a b c d : Nat → Int32} (hS : SigR n a b c d n') : ∃ oc om, f_X11_forget n = some oc ∧ f_X12_forget n' = some om ∧ oc.1 = om.1 ∧ SigR oc.2 a b c d om.2 := by
  obtain ⟨h1, h2, rfl, w, hw, rfl, h3⟩ := hS
  exact ⟨_, _, rfl, rfl, rfl, h1, h2, rfl, 0, by omega, rfl, fun k h => by omega⟩
