/-! ===== pure part 14: one act ===== -/
def mnI (x : Int32) : Int32 := if x < 999 then x else 999
theorem m_less (x : Int32) : f_X12_less 999 x = some (mnI x) := by
  unfold f_X12_less mnI
  by_cases c : x < 999
  · rw [if_pos (Int32.le_of_lt c), if_pos c]
  · rw [if_neg c]
    by_cases e : x ≤ 999
    · rw [if_pos e, Int32.le_antisymm e (m_nlt.mp c)]
    · rw [if_neg e]
def cuP (d p : Nat → Int32) : Nat → Int32 := fun k => mnI (p k + ptsI (d k))
theorem cp_at {j : Nat} {f g : Nat → Int32} : cp j f g j = g j := by simp [cp]
theorem m_countUp_loop (d p : Nat → Int32) (x ho ga : Int32) (n : Nat) : ∀ j, j ≤ 6 → f_X9_countUp_b2 (n + j + 1) x (nI (6 - j)) (cp (6 - j) (fun _ => 0) d) (cp (6 - j) (cuP d p) p) ho ga = some (cp 6 (fun _ => 0) d, cp 6 (cuP d p) p, x, ga + 1) := by
  intro j
  induction j with
  | zero =>
    intro _
    rw [f_X9_countUp_b2_s, if_pos (by decide)]
  | succ j ih =>
    intro hj
    rw [show n + (j + 1) + 1 = n + j + 1 + 1 by omega, f_X9_countUp_b2_s, if_neg (by rw [l6, m_le (by omega) (by omega)]; omega)]
    unfold f_X9_worth
    simp (disch := omega) only [m_chk, m_cl]
    rw [cp_at, cp_at, m_parts, Option.bind_some, Option.bind_some]
    have q : cp (6 - (j + 1) + 1) (cuP d p) p = upd (cp (6 - (j + 1)) (cuP d p) p) (6 - (j + 1)) (if p (6 - (j + 1)) + ptsI (d (6 - (j + 1))) < 999 then p (6 - (j + 1)) + ptsI (d (6 - (j + 1))) else 999) := (cp_s _ _ _).symm
    have q2 : cp (6 - (j + 1) + 1) (fun _ => 0) d = upd (cp (6 - (j + 1)) (fun _ => 0) d) (6 - (j + 1)) 0 := (cp_s _ _ _).symm
    rw [← q, ← q2, nI_1, show 6 - (j + 1) + 1 = 6 - j by omega]
    exact ih (by omega)
theorem m_countUp (d p : Nat → Int32) (x ho ga : Int32) : f_X9_countUp d p ho ga x = some (cp 6 (fun _ => 0) d, cp 6 (cuP d p) p, x, ga + 1) := by
  have h := m_countUp_loop d p x ho ga 1017 6 (by omega)
  rw [show 6 - 6 = 0 from rfl, cp_0, cp_0] at h
  exact h
theorem m_cry_loop (d p : Nat → Int32) (x ho ga : Int32) (n : Nat) : ∀ j, j ≤ 6 → f_X12_cry_b2 (n + j + 1) x (nI (6 - j)) (cp (6 - j) (fun _ => 0) d) (cp (6 - j) (cuP d p) p) ho ga = some (cp 6 (fun _ => 0) d, cp 6 (cuP d p) p, x, ga + 1) := by
  intro j
  induction j with
  | zero =>
    intro _
    rw [f_X12_cry_b2_s, if_pos (by decide)]
  | succ j ih =>
    intro hj
    rw [show n + (j + 1) + 1 = n + j + 1 + 1 by omega, f_X12_cry_b2_s, if_neg (by rw [l6, m_le (by omega) (by omega)]; omega)]
    simp (disch := omega) only [m_chk, m_cl]
    rw [cp_at, cp_at, m_partsOf, Option.bind_some, m_less, Option.bind_some]
    have q : cp (6 - (j + 1) + 1) (cuP d p) p = upd (cp (6 - (j + 1)) (cuP d p) p) (6 - (j + 1)) (mnI (p (6 - (j + 1)) + ptsI (d (6 - (j + 1))))) := (cp_s _ _ _).symm
    have q2 : cp (6 - (j + 1) + 1) (fun _ => 0) d = upd (cp (6 - (j + 1)) (fun _ => 0) d) (6 - (j + 1)) 0 := (cp_s _ _ _).symm
    rw [← q, ← q2, nI_1, show 6 - (j + 1) + 1 = 6 - j by omega]
    exact ih (by omega)
theorem m_cry (d p : Nat → Int32) (x ho ga : Int32) : f_X12_cry d p ho ga x = some (cp 6 (fun _ => 0) d, cp 6 (cuP d p) p, x, ga + 1) := by
  have h := m_cry_loop d p x ho ga 1017 6 (by omega)
  rw [show 6 - 6 = 0 from rfl, cp_0, cp_0] at h
  exact h
theorem m_why33 {d : Nat → Int32} {ib ho ga : Int32} {k : Nat} (hk : k < 6) (h : f_X9_whyNot d ib ho ga 33 (nI k) = some 0) : bI ib k = 1 ∧ ga < 99 := by
  unfold f_X9_whyNot at h
  rw [show f_X9_isThrow 33 = some 0 from by rw [m_isThrow]; rfl, Option.bind_some, i00, if_neg (show ¬ (33 : Int32) = 35 by decide), if_pos (show (33:Int32)=33 from rfl), m_isWhole d hk, Option.bind_some] at h
  by_cases c : d k = 111622
  · rw [if_pos c, i10, m_isIn, Option.bind_some] at h
    rcases bI_01 ib k with e | e
    · rw [e, i00] at h; exact absurd h (by decide)
    · rw [e, i10] at h
      by_cases q : ga < 99
      · exact ⟨e, q⟩
      · rw [if_neg q] at h; exact absurd h (by decide)
  · rw [if_neg c, i00] at h; exact absurd h (by decide)
theorem m_why35 {d : Nat → Int32} {ib ho ga : Int32} {x : Int32} (h : f_X9_whyNot d ib ho ga 35 x = some 0) : ¬ ib = ((1 : Int32) <<< (x &&& 31)) := by
  unfold f_X9_whyNot at h
  rw [show f_X9_isThrow 35 = some 0 from by rw [m_isThrow]; rfl, Option.bind_some, i00, if_pos (show (35:Int32)=35 from rfl)] at h
  intro c
  rw [if_pos c] at h; exact absurd h (by decide)
theorem m_sU0 : ∀ f, f ≤ 6 → 1 ≤ f → ¬ sU f = 0 := by decide
theorem m_sUne {f : Nat} (h1 : 1 ≤ f) (h6 : f ≤ 6) (d : Int32) : ¬ d + sU f = d := by
  intro h
  exact m_sU0 f h6 h1 (by rw [← Int32.zero_add (sU f), ← Int32.add_left_neg d, Int32.add_assoc, h])
theorem m_mark : ∀ f, f ≤ 6 → 1 ≤ f → nI (48 + f) - 49 + 1 = nI f ∧ ¬ nI (48 + f) = 33 ∧ ¬ nI (48 + f) = 35 ∧ ¬ nI (48 + f) = 46 ∧ nI (48 + f) - 48 = nI f := by decide
theorem m_n6 : ∀ h, h < 6 → ¬ nI h = -6 := by decide
def wA (wa ac wn : Int32) : Int32 := if wa = -6 then (if wn = -6 then wa else ac) else wa
def wW (wa ww wn : Int32) : Int32 := if wa = -6 then (if wn = -6 then ww else wn) else ww
theorem wA_no (wa ac : Int32) : wA wa ac (-6) = wa := by unfold wA; rw [if_pos (show (-6 : Int32) = -6 from rfl)]; split <;> rfl
theorem wW_no (wa ww : Int32) : wW wa ww (-6) = ww := by unfold wW; rw [if_pos (show (-6 : Int32) = -6 from rfl)]; split <;> rfl
/-- an act that is not refused: the class and the reference -/
theorem m_play {ib ho ga : Int32} {d p b pt inn mo : Nat → Int32} {ho' ga' mark who what v : Int32} (hT : TabR ib ho ga d p b pt inn ho' ga') (hm : MostR mo) (hA : ActR mark who what v) (h0 : f_X9_whyNot d ib ho ga mark who = some 0) (ac y va vb wa ww wn0 : Int32) :
    ∃ d1 p1 ib1 ho1 ga1 va1 vb1 wn b1 pt1 inn1, f_X4_play d p ib ho ga ac y va wa ww mark who = some (d1, p1, ib1, ho1, ga1, ac + 1, 0, va1, wA wa ac wn, wW wa ww wn) ∧ f_X12_happen mo b pt inn ho' ga' vb wn0 what v = some (b1, pt1, inn1, ho1, ga1, vb1, wn) ∧ TabR ib1 ho1 ga1 d1 p1 b1 pt1 inn1 ho1 ga1 ∧ (wn = -6 ∨ ∃ h : Nat, h < 6 ∧ wn = nI h) ∧ (va = vb → va1 = vb1) := by
  have hT0 := hT
  obtain ⟨h1, h2, h3, rfl, rfl, w, h, gm, hw, rfl, hh, rfl, hbi, hg, rfl⟩ := hT
  unfold f_X4_play
  rw [h0, Option.bind_some, i00]
  unfold f_X12_happen
  rcases hA with ⟨f, f1, f6, rfl, rfl, rfl⟩ | ⟨rfl, rfl⟩ | ⟨k, hk, rfl, rfl, rfl, rfl⟩ | ⟨k, hk, rfl, rfl, rfl, rfl⟩
  · obtain ⟨e1, e2, e3, e4, e5⟩ := m_mark f f6 f1
    rw [if_neg e2, if_neg e3, if_neg e4, e1, i00]
    unfold f_X9_drawBy f_X12_cast
    rw [m_chk hh (by omega), m_cl (by omega), m_chk hh (by omega)]
    rw [← h1 h hh]
    rcases m_draw f1 f6 (d h) with ⟨c, e⟩ | ⟨c, e⟩
    · rcases m_canDraw hm f1 f6 (d h) with ⟨c', e'⟩ | ⟨c', e'⟩
      · rw [e, e', Option.bind_some, Option.bind_some, i10, if_neg (m_sUne f1 f6 (d h)), m_chk hh (by omega), m_chk hh (by omega), m_drawnBy f1 f6, Option.bind_some, Option.bind_some, m_chk hh (by omega), m_chk hh (by omega), upd_at]
        show ∃ d1 p1 ib1 ho1 ga1 va1 vb1 wn b1 pt1 inn1, ((f_X4_noteThrow (upd d h (d h + sU f)) (nI h) ac va wa ww 1).bind fun z9 => some (upd d h (d h + sU f), p, nI w, nI h, nI gm, ac + 1, 0, z9.1, z9.2.1, z9.2.2)) = _ ∧ _
        have hT1 : TabR (nI w) (nI h) (nI gm) (upd d h (d h + sU f)) p (upd b h (d h + sU f)) pt inn (nI h) (nI gm) := ⟨upd_E h1 h _, h2, h3, rfl, rfl, w, h, gm, hw, rfl, hh, rfl, hbi, hg, rfl⟩
        unfold f_X4_noteThrow
        rw [i10, m_isWhole _ hh, upd_at, Option.bind_some]
        by_cases q : d h + sU f = 111622
        · rw [if_pos q, if_pos q, i10, Option.bind_some]
          refine ⟨_, _, _, _, _, va, vb, nI h, _, _, _, ?_, rfl, hT1, Or.inr ⟨h, hh, rfl⟩, id⟩
          have z : ¬ nI h = -6 := m_n6 h hh
          unfold wA wW
          rw [if_neg z, if_neg z]
          by_cases c3 : wa = -6
          · rw [if_pos c3, if_pos c3, if_pos c3, Option.bind_some]
          · rw [if_neg c3, if_neg c3, if_neg c3, Option.bind_some]
        · rw [if_neg q, if_neg q, i00, Option.bind_some]
          refine ⟨_, _, _, _, _, va, vb, -6, _, _, _, ?_, rfl, hT1, Or.inl rfl, id⟩
          rw [wA_no, wW_no]
          split <;> rfl
      · exact absurd c c'
    · rcases m_canDraw hm f1 f6 (d h) with ⟨c', e'⟩ | ⟨c', e'⟩
      · exact absurd c' c
      · obtain ⟨h', a1, a2, a3, a4⟩ := m_passOn h3 hh ⟨h, hh, hbi⟩
        rw [e, e', Option.bind_some, Option.bind_some, i00, if_pos rfl, a3, a4]
        refine ⟨d, p, nI w, nI h', nI gm, va + 1, vb + 1, -6, b, pt, inn, ?_, rfl, ⟨h1, h2, h3, rfl, rfl, w, h', gm, hw, rfl, a1, rfl, a2, hg, rfl⟩, Or.inl rfl, fun e => by rw [e]⟩
        rw [wA_no, wW_no]
        rfl
  · obtain ⟨h', a1, a2, a3, a4⟩ := m_passOn h3 hh ⟨h, hh, hbi⟩
    rw [if_neg (show ¬ (46 : Int32) = 33 by decide), if_neg (show ¬ (46 : Int32) = 35 by decide), if_pos rfl, if_neg (show ¬ (1 : Int32) = 0 by decide), if_neg (show ¬ (1 : Int32) = 2 by decide), if_neg (show ¬ (1 : Int32) = 3 by decide), a3, a4]
    refine ⟨d, p, nI w, nI h', nI gm, va, vb, -6, b, pt, inn, ?_, rfl, ⟨h1, h2, h3, rfl, rfl, w, h', gm, hw, rfl, a1, rfl, a2, hg, rfl⟩, Or.inl rfl, id⟩
    rw [wA_no, wW_no]
    rfl
  · obtain ⟨a1, a2⟩ := m_why33 hk h0
    rw [l99, m_lt (by omega) (by omega)] at a2
    rw [if_pos (show (33 : Int32) = 33 from rfl), if_neg (show ¬ (2 : Int32) = 0 by decide), if_pos (show (2 : Int32) = 2 from rfl), m_countUp, m_cry]
    refine ⟨cp 6 (fun _ => 0) d, cp 6 (cuP d p) p, nI w, nI k, nI gm + 1, va, vb, -6, cp 6 (fun _ => 0) b, cp 6 (cuP b pt) pt, inn, ?_, rfl, ⟨?_, ?_, h3, rfl, rfl, w, k, gm + 1, hw, rfl, hk, rfl, a1, by omega, nI_1 gm⟩, Or.inl rfl, id⟩
    · rw [wA_no, wW_no]
      rfl
    · intro j hj; rw [cp_lt hj, cp_lt hj]
    · intro j hj; rw [cp_lt hj, cp_lt hj]; unfold cuP; rw [h1 j hj, h2 j hj]
  · have a1 := m_why35 h0
    obtain ⟨b1, b2, b3⟩ := m_go_bits w hw k hk
    rw [if_neg (show ¬ (35 : Int32) = 33 by decide), if_pos (show (35 : Int32) = 35 from rfl), if_neg (show ¬ (3 : Int32) = 0 by decide), if_neg (show ¬ (3 : Int32) = 2 by decide), if_pos (show (3 : Int32) = 3 from rfl)]
    unfold f_X9_goOrCome f_X12_goOrCome
    rw [b1, m_chk hk (by omega), m_chk hk (by omega), m_chk hh (by omega), m_cl (by omega), m_cl (by omega)]
    have i1 : ∀ j, j < 6 → upd inn k (1 - inn k) j = bI (nI (w ^^^ 2 ^ k)) j := by
      intro j hj
      rw [b3 j hj]
      by_cases c : j = k
      · rw [if_pos c, c, upd_at, h3 k hk]
      · rw [if_neg c, upd_ne c, h3 j hj]
    have w0 : w ≠ 0 := by intro c; rw [c, bI_0 h hh] at hbi; exact absurd hbi (by decide)
    by_cases c : k = h
    · subst c
      rw [if_pos rfl, i1 k hk]
      have z : bI (nI (w ^^^ 2 ^ k)) k = 0 := by rw [b3 k hk, if_pos rfl, hbi]; rfl
      obtain ⟨h', a1, a2, a3, a4⟩ := m_passOn i1 hk (m_go_left w hw k hk w0 a1)
      rw [z, i00, a3, a4]
      refine ⟨d, p, nI (w ^^^ 2 ^ k), nI h', nI gm, va, vb, -6, b, pt, _, ?_, rfl, ⟨h1, h2, i1, rfl, rfl, _, h', gm, b2, rfl, a1, rfl, a2, hg, rfl⟩, Or.inl rfl, id⟩
      rw [wA_no, wW_no]
      rfl
    · have z : bI (nI (w ^^^ 2 ^ k)) h = 1 := by rw [b3 h hh, if_neg (fun q => c q.symm), hbi]
      rw [if_neg (by rw [m_eq (by omega) (by omega)]; exact c), i1 h hh, z, i10]
      refine ⟨d, p, nI (w ^^^ 2 ^ k), nI h, nI gm, va, vb, -6, b, pt, _, ?_, rfl, ⟨h1, h2, i1, rfl, rfl, _, h, gm, b2, rfl, hh, rfl, z, hg, rfl⟩, Or.inl rfl, id⟩
      rw [wA_no, wW_no]
      rfl
