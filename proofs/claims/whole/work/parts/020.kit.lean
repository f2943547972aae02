/-! ===== what all walks share ===== -/
/-- class numbers, slots, the array classes of int, long, boolean, the addresses of the three static rows -/
abbrev bG : Type := (Nat → ClassId) × (Nat → Nat → Nat) × ClassId × ClassId × ClassId × Nat × Nat × Nat
abbrev gD (g : bG) : va_G := (g.1, g.2.1)
abbrev gI (g : bG) : ClassId := g.2.2.1
abbrev gJ (g : bG) : ClassId := g.2.2.2.1
abbrev gZ (g : bG) : ClassId := g.2.2.2.2.1
abbrev gU (g : bG) : Nat := g.2.2.2.2.2.1
abbrev gM (g : bG) : Nat := g.2.2.2.2.2.2.1
abbrev gH (g : bG) : Nat := g.2.2.2.2.2.2.2
abbrev gTy (g : bG) : List (ClassId × FieldType) := [(gI g, .int), (gJ g, .long), (gZ g, .boolean)]
def sU (j : Nat) : Int32 := match j with
  | 0 => 1
  | 1 => 1
  | 2 => 10
  | 3 => 100
  | 4 => 1000
  | 5 => 10000
  | 6 => 100000
  | _ => 0
def sM (j : Nat) : Int32 := match j with
  | 0 => 0
  | 1 => 2
  | 2 => 2
  | 3 => 6
  | 4 => 1
  | 5 => 1
  | 6 => 1
  | _ => 0
def sH (j : Nat) : Int32 := match j with
  | 0 => 0
  | 1 => 5
  | 2 => 5
  | 3 => 6
  | 4 => 6
  | 5 => 6
  | 6 => 0
  | _ => 0
def gNf : List (String × Nat × String × String × String) := [(RX11, 92, RX9, "drawn", "[I"), (RX11, 88, RX9, "points", "[I"), (RX11, 98, RX9, "holder", "I"), (RX4, 87, RX9, "holder", "I"), (RX11, 135, RX9, "game", "I"), (RX4, 35, RX5, "signs", "[I"), (RX4, 28, RX5, "size", "I"), (RX11, 105, RX5, "size", "I"), (RX11, 128, RX4, "table", "LBeetleDrive$Table;"), (RX11, 122, RX4, "acts", "I"), (RX11, 125, RX4, "why", "I"), (RX11, 119, RX4, "vain", "I"), (RX11, 144, RX4, "wholeAct", "I"), (RX11, 147, RX4, "wholeWho", "I"), (RX11, 157, RX6, "orders", "[I"), (RX11, 193, RX7, "size", "I"), (RX11, 200, RX2, "found", "[I"), (RX11, 199, RX2, "size", "I"), (RX11, 231, RX3, "table", "LBeetleDrive$Table;"), (RX11, 232, RX3, "sights", "LBeetleDrive$Sights;"), (RX11, 227, RX3, "isKept", "Z")]
def gNm : List (String × Nat × MethodName) := [(RX11, 9, yX9_init), (RX11, 18, yX5_init), (RX11, 25, yX4_init), (RX4, 11, yX9_init), (RX0, 12, yX11_isWithin), (RX11, 39, yX8_init), (RX11, 46, yX7_init), (RX11, 53, yX2_init), (RX11, 67, yX3_init), (RX3, 9, yX9_init), (RX3, 18, yX7_init), (RX9, 60, yX11_isWithin), (RX5, 27, yX11_isWithin), (RX1, 9, yX11_isWithin), (RX2, 44, yX11_isWithin)]
/-- what holds of the machine beside the world: tables, nest links, the static rows -/
def gX (g : bG) (A : Nat → Prop) (U : State) (H : Heap) : Prop :=
  va_K (gD g) vwCl (gTy g) U ∧ (∀ w ∈ gNf, va_Nw (.fieldLinkNest w.1 w.2.1 w.2.2.1 w.2.2.2.1 w.2.2.2.2 "BeetleDrive") U) ∧ (∀ w ∈ gNm, va_Nw (.methodLinkNest w.1 w.2.1 w.2.2 "BeetleDrive") U) ∧
  (va_Z "BeetleDrive$Beetle" "UNIT" "[I" (.ref (gU g)) A U H ∧ va_Z "BeetleDrive$Beetle" "MOST" "[I" (.ref (gM g)) A U H ∧ va_Z "BeetleDrive$Beetle" "HANGS_ON" "[I" (.ref (gH g)) A U H) ∧
  va_T .int (gU g) 7 (fun j => .int (sU j)) A U H ∧ va_T .int (gM g) 7 (fun j => .int (sM j)) A U H ∧ va_T .int (gH g) 7 (fun j => .int (sH j)) A U H
theorem gX.nf {g : bG} {A : Nat → Prop} {U : State} {H : Heap} (h : gX g A U H) (k : Nat) {a : String} {i : Nat} {b n d : String} (hk : gNf[k]? = some (a, i, b, n, d)) {av : Array Value} : (Cond.fieldLinkNest a i b n d "BeetleDrive").before av U = true := va_Nw.use rfl (h.2.1 _ (List.mem_of_getElem? hk))
theorem gX.nm {g : bG} {A : Nat → Prop} {U : State} {H : Heap} (h : gX g A U H) (k : Nat) {a : String} {i : Nat} {y : MethodName} (hk : gNm[k]? = some (a, i, y)) : va_Nw (.methodLinkNest a i y "BeetleDrive") U := h.2.2.1 _ (List.mem_of_getElem? hk)
theorem gX.warm {g : bG} {A : Nat → Prop} {s U : State} {H : Heap} (hW : s.WarmedH U.vm) (h : gX g A s H) : gX g A U H :=
  ⟨va_K.moved hW.alike h.1, fun w hw => va_Nw.warmF hW (h.2.1 w hw), fun w hw => va_Nw.warmM hW (h.2.2.1 w hw), ⟨va_Z.moved hW.alike h.2.2.2.1.1, va_Z.moved hW.alike h.2.2.2.1.2.1, va_Z.moved hW.alike h.2.2.2.1.2.2⟩, va_T.moved hW.alike h.2.2.2.2.1, va_T.moved hW.alike h.2.2.2.2.2.1, va_T.moved hW.alike h.2.2.2.2.2.2⟩
theorem gX.call {g : bG} {A : Nat → Prop} {U : State} {gf : JFrame} {mk : MethodId} {a : Array Value} {H : Heap} (h : gX g A U H) : gX g A (U.calling gf mk a) H :=
  ⟨va_K.moved (u := U) (U := U.calling gf mk a) (Vm.Alike.refl U.vm) h.1, fun w hw => va_Nw.same (u := U) (U := U.calling gf mk a) rfl rfl (h.2.1 w hw), fun w hw => va_Nw.same (u := U) (U := U.calling gf mk a) rfl rfl (h.2.2.1 w hw), ⟨va_Z.moved (u := U) (U := U.calling gf mk a) (Vm.Alike.refl U.vm) h.2.2.2.1.1, va_Z.moved (u := U) (U := U.calling gf mk a) (Vm.Alike.refl U.vm) h.2.2.2.1.2.1, va_Z.moved (u := U) (U := U.calling gf mk a) (Vm.Alike.refl U.vm) h.2.2.2.1.2.2⟩, va_T.moved (u := U) (U := U.calling gf mk a) (Vm.Alike.refl U.vm) h.2.2.2.2.1, va_T.moved (u := U) (U := U.calling gf mk a) (Vm.Alike.refl U.vm) h.2.2.2.2.2.1, va_T.moved (u := U) (U := U.calling gf mk a) (Vm.Alike.refl U.vm) h.2.2.2.2.2.2⟩
theorem gX.kept {g : bG} {A : Nat → Prop} {U : State} {H H1 : Heap} (h : gX g A U H) (hq : ∀ a : Nat, a < H.size → ¬ A a → H1[a]? = H[a]?) : gX g A U H1 :=
  ⟨h.1, h.2.1, h.2.2.1, ⟨h.2.2.2.1.1.kept hq, h.2.2.2.1.2.1.kept hq, h.2.2.2.1.2.2.kept hq⟩, h.2.2.2.2.1.kept hq, h.2.2.2.2.2.1.kept hq, h.2.2.2.2.2.2.kept hq⟩
theorem gX.narrow {g : bG} {A B : Nat → Prop} {U : State} {H : Heap} (h : gX g A U H) (hq : ∀ q, B q → A q) : gX g B U H :=
  ⟨h.1, h.2.1, h.2.2.1, ⟨h.2.2.2.1.1.narrow hq, h.2.2.2.1.2.1.narrow hq, h.2.2.2.1.2.2.narrow hq⟩, h.2.2.2.2.1.narrow hq, h.2.2.2.2.2.1.narrow hq, h.2.2.2.2.2.2.narrow hq⟩
/-- the same at the heap as it is now, for a callee that writes nothing -/
theorem gX.now {g : bG} {A : Nat → Prop} {s : State} {H : Heap} {locs : List Loc} (h : gX g A s s.heap) (hS : va_S A s.heap H locs) : gX g (fun _ => False) s H := (h.kept (fun a h1 h2 => hS.2.1 a h1 h2)).narrow (fun _ q => q.elim)
/-- steps of the pure texts -/
def chk {α : Type} (i : Int32) (n : Nat) (k : Option α) : Option α := if i < 0 ∨ n ≤ i.toNatClampNeg then none else k
theorem chk_some {α : Type} {i : Int32} {n : Nat} {k : Option α} {o : α} (h : chk i n k = some o) : vp_in i n ∧ k = some o := by
  unfold chk at h
  by_cases c : i < 0 ∨ n ≤ i.toNatClampNeg
  · rw [if_pos c] at h; cases h
  · rw [if_neg c] at h; exact ⟨c, h⟩
def nz {α : Type} (y : Int32) (k : Option α) : Option α := if y = 0 then none else k
theorem nz_some {α : Type} {y : Int32} {k : Option α} {o : α} (h : nz y k = some o) : ¬ y = 0 ∧ k = some o := by
  unfold nz at h
  by_cases c : y = 0
  · rw [if_pos c] at h; cases h
  · rw [if_neg c] at h; exact ⟨c, h⟩
def nzl {α : Type} (y : Int64) (k : Option α) : Option α := if y = 0 then none else k
theorem nzl_some {α : Type} {y : Int64} {k : Option α} {o : α} (h : nzl y k = some o) : ¬ y = 0 ∧ k = some o := by
  unfold nzl at h
  by_cases c : y = 0
  · rw [if_pos c] at h; cases h
  · rw [if_neg c] at h; exact ⟨c, h⟩
def bz {α : Type} (v : Int32) (k : Option α) : Option α := if v &&& 1 = v then k else none
theorem bz_some {α : Type} {v : Int32} {k : Option α} {o : α} (h : bz v k = some o) : narrow .boolean (.int v) = .int v ∧ k = some o := by
  unfold bz at h
  by_cases c : v &&& 1 = v
  · rw [if_pos c] at h; exact ⟨congrArg Value.int c, h⟩
  · rw [if_neg c] at h; cases h
theorem bnd_some {α β : Type} {o : Option α} {f : α → Option β} {b : β} (h : o.bind f = some b) : ∃ a, o = some a ∧ f a = some b := by
  cases o with
  | none => cases h
  | some a => exact ⟨a, rfl, h⟩
theorem ift {α : Type} {c : Prop} {d : Decidable c} {a b o : α} (hc : c) (h : @ite α c d a b = o) : a = o := by rw [if_pos hc] at h; exact h
theorem iff_ {α : Type} {c : Prop} {d : Decidable c} {a b o : α} (hc : ¬ c) (h : @ite α c d a b = o) : b = o := by rw [if_neg hc] at h; exact h
def FU : Nat := 1024
/-- contracts: R of a method that writes nothing, M of one that writes -/
def Rpre (g : bG) (av : List Value) (ws : va_W) : Array Value → State → Prop := va_Pc av (fun U => va_P (gD g) vwCl ws U.heap ∧ gX g (fun _ => False) U U.heap)
def Sref (r : Nat) : Array Value → State → Outcome → State → Prop := fun _ st o t => o = .returned (some (.ref r)) ∧ t.heap = st.heap
def Ri (l : Launch) (g : bG) (y : MethodName) (wd : List Cond) (rm : Room) (av : List Value) (ws : va_W) (r : Int32) : Prop := Met l y wd rm (Rpre g av ws) (vp_Si (fun x => x = r)) 0 0 (fun _ => False)
def Rl (l : Launch) (g : bG) (y : MethodName) (wd : List Cond) (rm : Room) (av : List Value) (ws : va_W) (r : Int64) : Prop := Met l y wd rm (Rpre g av ws) (vp_Sl (fun x => x = r)) 0 0 (fun _ => False)
def Rr (l : Launch) (g : bG) (y : MethodName) (wd : List Cond) (rm : Room) (av : List Value) (ws : va_W) (r : Nat) : Prop := Met l y wd rm (Rpre g av ws) (Sref r) 0 0 (fun _ => False)
def Mpre (g : bG) (av : List Value) (ws : va_W) (sz : Nat) : Array Value → State → Prop := va_Pc av (fun U => U.heap.size = sz ∧ va_P (gD g) vwCl ws U.heap ∧ va_D (fun _ => True) ws ∧ gX g (va_A ws sz) U U.heap)
def Mpost (g : bG) (w1 : va_W) (A : Nat → Prop) (t : State) : Prop := va_P (gD g) vwCl w1 t.heap ∧ va_D A w1
def Qi (g : bG) (r : Int32) (w1 : va_W) (A : Nat → Prop) : Array Value → State → Outcome → State → Prop := va_Qi (S := Unit) (fun x _ => x = r) (fun _ t => Mpost g w1 A t) A
def Ql (g : bG) (r : Int64) (w1 : va_W) (A : Nat → Prop) : Array Value → State → Outcome → State → Prop := va_Ql (S := Unit) (fun x _ => x = r) (fun _ t => Mpost g w1 A t) A
def Qv (g : bG) (w1 : va_W) (A : Nat → Prop) : Array Value → State → Outcome → State → Prop := va_Qv (S := Unit) (fun _ => True) (fun _ t => Mpost g w1 A t) A
def Mi (l : Launch) (g : bG) (y : MethodName) (wd : List Cond) (rm : Room) (av : List Value) (ws : va_W) (r : Int32) (w1 : va_W) : Prop := ∀ sz : Nat, Met l y wd rm (Mpre g av ws sz) (Qi g r w1 (va_A ws sz)) 0 0 (va_A ws sz)
def Ml (l : Launch) (g : bG) (y : MethodName) (wd : List Cond) (rm : Room) (av : List Value) (ws : va_W) (r : Int64) (w1 : va_W) : Prop := ∀ sz : Nat, Met l y wd rm (Mpre g av ws sz) (Ql g r w1 (va_A ws sz)) 0 0 (va_A ws sz)
def Mv (l : Launch) (g : bG) (y : MethodName) (wd : List Cond) (rm : Room) (av : List Value) (ws : va_W) (w1 : va_W) : Prop := ∀ sz : Nat, Met l y wd rm (Mpre g av ws sz) (Qv g w1 (va_A ws sz)) 0 0 (va_A ws sz)
theorem Rpre.blind {g : bG} {av : List Value} {ws : va_W} : FrameBlind (Rpre g av ws) := fun a U gf mk q => by
  obtain ⟨q0, q1, q2⟩ := q
  exact ⟨q0, q1, q2.call⟩
theorem Mpre.blind {g : bG} {av : List Value} {ws : va_W} {sz : Nat} : FrameBlind (Mpre g av ws sz) := fun a U gf mk q => by
  obtain ⟨q0, q1, q2, q3, q4⟩ := q
  exact ⟨q0, q1, q2, q3, q4.call⟩
theorem map_fm {is : List Nat} {f : Nat → Option (Nat × va_E)} {w : va_W} (h : is.map f = w.map some) : is.filterMap f = w := by
  induction is generalizing w with
  | nil => cases w with
    | nil => rfl
    | cons a w => cases h
  | cons i is ih => cases w with
    | nil => cases h
    | cons a w =>
      simp only [List.map_cons, List.cons.injEq] at h
      rw [List.filterMap_cons, h.1, ih h.2]
theorem va_P.subm {D : va_G} {cl : List vw_C} {ws ws' : va_W} {H : Heap} (h : va_P D cl ws H) (is : List Nat) (hs : is.map (fun i => ws[i]?) = ws'.map some) : va_P D cl ws' H := h.sub is (map_fm hs)
section KITS
variable {p : Program} {l : Launch} {e : Env} {R : Room} {s : State} {m : MethodId} {args : Array Value} {below : List Frame} {meth : Method} {c : Code} {H : Heap} {locs : List Loc} {cells slots : Nat} {Q : State → Prop} {cc : ByteArray} {pc : Nat} {ls : Array Slot} {rest st0 : List Value} {a : Array Value} {A : Nat → Prop} {g : bG} {ws wc wr w1 w2 : va_W}
theorem kpS_R {As : List Value} (hG : gX g (fun _ => False) s H) (hP : va_P (gD g) vwCl wc H) : PreS s H (Rpre g As wc) As := ⟨Rpre.blind, fun U hU hW => ⟨rfl, by rw [hU]; exact hP, by rw [hU]; exact hG.warm hW⟩⟩
theorem kpV_R {As : List Value} {b q0 ci : Nat} {q : vw_C} {fs : List Value} (hG : gX g (fun _ => False) s H) (hP : va_P (gD g) vwCl wc H) (hc : vwCl[ci]? = some q) (he : wc[q0]? = some (b, .inr (ci, fs))) : PreV s H q.1 b (Rpre g (.ref b :: As) wc) As := ⟨Rpre.blind, va_recv hG.1 hP hc he, fun U hU hW => ⟨rfl, by rw [hU]; exact hP, by rw [hU]; exact hG.warm hW⟩⟩
theorem kpM0 {As : List Value} (hG : gX g A s s.heap) (hS : va_S A s.heap H locs) (hP : va_P (gD g) vwCl ws H) (hD : va_D A ws) (hA : ∀ q, s.heap.size ≤ q → A q) (isC : List Nat) (hC : isC.map (fun i => ws[i]?) = wc.map some) (hn : va_nd isC = true) : ∀ U : State, U.heap = H → s.WarmedH U.vm → Mpre g As wc H.size As.toArray U := fun U hU hW =>
  ⟨rfl, by rw [hU], by rw [hU]; exact hP.subm isC hC, (hD.sub isC hn hC).weaken (fun _ _ _ _ => trivial), by rw [hU]; exact ((hG.kept (fun a h1 h2 => hS.2.1 a h1 h2)).narrow (va_free hD hS hA isC hC)).warm hW⟩
theorem kpS_M {As : List Value} (hG : gX g A s s.heap) (hS : va_S A s.heap H locs) (hP : va_P (gD g) vwCl ws H) (hD : va_D A ws) (hA : ∀ q, s.heap.size ≤ q → A q) (isC : List Nat) (hC : isC.map (fun i => ws[i]?) = wc.map some) (hn : va_nd isC = true) : PreS s H (Mpre g As wc H.size) As := ⟨Mpre.blind, kpM0 hG hS hP hD hA isC hC hn⟩
theorem kpV_M {As : List Value} {b q0 ci : Nat} {q : vw_C} {fs : List Value} (hG : gX g A s s.heap) (hS : va_S A s.heap H locs) (hP : va_P (gD g) vwCl ws H) (hD : va_D A ws) (hA : ∀ q, s.heap.size ≤ q → A q) (isC : List Nat) (hC : isC.map (fun i => ws[i]?) = wc.map some) (hn : va_nd isC = true) (hc : vwCl[ci]? = some q) (he : wc[q0]? = some (b, .inr (ci, fs))) : PreV s H q.1 b (Mpre g (.ref b :: As) wc H.size) As := ⟨Mpre.blind, va_recv hG.1 (hP.subm isC hC) hc he, kpM0 (As := .ref b :: As) hG hS hP hD hA isC hC hn⟩
theorem kR_i {r : Int32} (hr : va_Run p l e R s m args below meth c H locs cells slots 0 0 (F0 m pc ls st0) rest (vp_Si (fun x => x = r) a) (fun _ => False)) (kk : W p l e R s m args below meth c H locs cells slots Q (F0 m (pc + 3) ls (.int r :: rest))) : W p l e R s m args below meth c H locs cells slots Q (F0 m pc ls st0) := by
  intro T hT X
  obtain ⟨v, st₀, t, T', L, h0, X', hL, e1, e2, ⟨x, hv, hp, hh⟩, st⟩ := hr T hT X
  cases hv
  subst hp
  obtain ⟨t2, a1, b1⟩ := kk T' (by rw [e1, hh, h0]) (Stand.forget X' (fun q h => (hL q h).elim))
  exact ⟨t2, st t2 a1, b1⟩
theorem kR_l {r : Int64} (hr : va_Run p l e R s m args below meth c H locs cells slots 0 0 (F0 m pc ls st0) rest (vp_Sl (fun x => x = r) a) (fun _ => False)) (kk : W p l e R s m args below meth c H locs cells slots Q (F0 m (pc + 3) ls (.long r :: rest))) : W p l e R s m args below meth c H locs cells slots Q (F0 m pc ls st0) := by
  intro T hT X
  obtain ⟨v, st₀, t, T', L, h0, X', hL, e1, e2, ⟨x, hv, hp, hh⟩, st⟩ := hr T hT X
  cases hv
  subst hp
  obtain ⟨t2, a1, b1⟩ := kk T' (by rw [e1, hh, h0]) (Stand.forget X' (fun q h => (hL q h).elim))
  exact ⟨t2, st t2 a1, b1⟩
theorem kR_r {r : Nat} (hr : va_Run p l e R s m args below meth c H locs cells slots 0 0 (F0 m pc ls st0) rest (Sref r a) (fun _ => False)) (kk : W p l e R s m args below meth c H locs cells slots Q (F0 m (pc + 3) ls (.ref r :: rest))) : W p l e R s m args below meth c H locs cells slots Q (F0 m pc ls st0) := by
  intro T hT X
  obtain ⟨v, st₀, t, T', L, h0, X', hL, e1, e2, ⟨hv, hh⟩, st⟩ := hr T hT X
  cases hv
  obtain ⟨t2, a1, b1⟩ := kk T' (by rw [e1, hh, h0]) (Stand.forget X' (fun q h => (hL q h).elim))
  exact ⟨t2, st t2 a1, b1⟩
/-- behind a call that wrote: what came back beside the rest, in the order that is wanted -/
theorem kJoin {H1 : Heap} (hP : va_P (gD g) vwCl ws H) (hD : va_D A ws) (hS : va_S A s.heap H locs) (hA : ∀ q, s.heap.size ≤ q → A q) (isC isR pm : List Nat) (hC : isC.map (fun i => ws[i]?) = wc.map some) (hR : isR.map (fun i => ws[i]?) = wr.map some) (hn : va_nd isR = true) (hdis : ∀ i ∈ isR, i ∉ isC) (hpm : pm.map (fun i => (wr ++ w1)[i]?) = w2.map some) (hpn : va_nd pm = true) (hk : ∀ q : Nat, q < H.size → ¬ va_A wc H.size q → H1[q]? = H[q]?) (hP1 : va_P (gD g) vwCl w1 H1) (hD1 : va_D (va_A wc H.size) w1) : va_P (gD g) vwCl w2 H1 ∧ va_D A w2 := by
  obtain ⟨hP2, hD2⟩ := va_join hP hD isC isR hC hR hn hdis hk (va_free hD hS hA isC hC) hP1 hD1
  exact ⟨hP2.subm pm hpm, hD2.sub pm hpn hpm⟩
theorem kM_i {r : Int32} (hr : va_Run p l e R s m args below meth c H locs cells slots 0 0 (F0 m pc ls st0) rest (Qi g r w1 (va_A wc H.size) a) (va_A wc H.size)) (hP : va_P (gD g) vwCl ws H) (hD : va_D A ws) (hS : va_S A s.heap H locs) (hA : ∀ q, s.heap.size ≤ q → A q) (isC isR pm : List Nat) (hC : isC.map (fun i => ws[i]?) = wc.map some) (hR : isR.map (fun i => ws[i]?) = wr.map some) (hn : va_nd isR = true) (hdis : ∀ i ∈ isR, i ∉ isC) (hpm : pm.map (fun i => (wr ++ w1)[i]?) = w2.map some) (hpn : va_nd pm = true)
    (kk : ∀ (H1 : Heap) (locs1 : List Loc), va_P (gD g) vwCl w2 H1 → va_D A w2 → va_S A s.heap H1 locs1 → W p l e R s m args below meth c H1 locs1 cells slots Q (F0 m (pc + 3) ls (.int r :: rest))) : W p l e R s m args below meth c H locs cells slots Q (F0 m pc ls st0) := by
  have hF := va_free hD hS hA isC hC
  refine va_calli hr hS (fun q _ h => hF q h) hF (fun r1 u t H1 locs1 ht hvm hw hB hz hk hS1 => ?_)
  subst hw
  obtain ⟨hP1, hD1⟩ := hB
  rw [ht] at hP1
  obtain ⟨hP2, hD2⟩ := kJoin hP hD hS hA isC isR pm hC hR hn hdis hpm hpn hk hP1 hD1
  exact kk H1 locs1 hP2 hD2 hS1
theorem kM_l {r : Int64} (hr : va_Run p l e R s m args below meth c H locs cells slots 0 0 (F0 m pc ls st0) rest (Ql g r w1 (va_A wc H.size) a) (va_A wc H.size)) (hP : va_P (gD g) vwCl ws H) (hD : va_D A ws) (hS : va_S A s.heap H locs) (hA : ∀ q, s.heap.size ≤ q → A q) (isC isR pm : List Nat) (hC : isC.map (fun i => ws[i]?) = wc.map some) (hR : isR.map (fun i => ws[i]?) = wr.map some) (hn : va_nd isR = true) (hdis : ∀ i ∈ isR, i ∉ isC) (hpm : pm.map (fun i => (wr ++ w1)[i]?) = w2.map some) (hpn : va_nd pm = true)
    (kk : ∀ (H1 : Heap) (locs1 : List Loc), va_P (gD g) vwCl w2 H1 → va_D A w2 → va_S A s.heap H1 locs1 → W p l e R s m args below meth c H1 locs1 cells slots Q (F0 m (pc + 3) ls (.long r :: rest))) : W p l e R s m args below meth c H locs cells slots Q (F0 m pc ls st0) := by
  have hF := va_free hD hS hA isC hC
  refine va_calll hr hS (fun q _ h => hF q h) hF (fun r1 u t H1 locs1 ht hvm hw hB hz hk hS1 => ?_)
  subst hw
  obtain ⟨hP1, hD1⟩ := hB
  rw [ht] at hP1
  obtain ⟨hP2, hD2⟩ := kJoin hP hD hS hA isC isR pm hC hR hn hdis hpm hpn hk hP1 hD1
  exact kk H1 locs1 hP2 hD2 hS1
theorem kM_v (hr : va_Run p l e R s m args below meth c H locs cells slots 0 0 (F0 m pc ls st0) rest (Qv g w1 (va_A wc H.size) a) (va_A wc H.size)) (hP : va_P (gD g) vwCl ws H) (hD : va_D A ws) (hS : va_S A s.heap H locs) (hA : ∀ q, s.heap.size ≤ q → A q) (isC isR pm : List Nat) (hC : isC.map (fun i => ws[i]?) = wc.map some) (hR : isR.map (fun i => ws[i]?) = wr.map some) (hn : va_nd isR = true) (hdis : ∀ i ∈ isR, i ∉ isC) (hpm : pm.map (fun i => (wr ++ w1)[i]?) = w2.map some) (hpn : va_nd pm = true)
    (kk : ∀ (H1 : Heap) (locs1 : List Loc), va_P (gD g) vwCl w2 H1 → va_D A w2 → va_S A s.heap H1 locs1 → W p l e R s m args below meth c H1 locs1 cells slots Q (F0 m (pc + 3) ls rest)) : W p l e R s m args below meth c H locs cells slots Q (F0 m pc ls st0) := by
  have hF := va_free hD hS hA isC hC
  refine va_callv hr hS (fun q _ h => hF q h) hF (fun u t H1 locs1 ht hvm hw hB hz hk hS1 => ?_)
  obtain ⟨hP1, hD1⟩ := hB
  rw [ht] at hP1
  obtain ⟨hP2, hD2⟩ := kJoin hP hD hS hA isC isR pm hC hR hn hdis hpm hpn hk hP1 hD1
  exact kk H1 locs1 hP2 hD2 hS1
theorem eR_i {r v : Int32} (hx : p.tables.exec = Jvm.exec) (hb : c.code = cc) (hr : meth.sig.returnType = some .int) (hlk : meth.locks = false) (hv : v = r) (hdg : decode cc pc = .ok (.ireturn, 1)) : W p l e R s m args below meth c s.heap [] 0 0 (MQ below (vp_Si (fun x => x = r)) args s 0 0 (fun _ => False)) (F0 m pc ls [.int v]) := W.iret hx hb hr (fun _ ht _ => ⟨v, rfl, hv, ht⟩) (fun _ h => by cases h) hdg hlk
theorem eR_z {r v : Int32} (hx : p.tables.exec = Jvm.exec) (hb : c.code = cc) (hr : meth.sig.returnType = some .boolean) (hlk : meth.locks = false) (hn : narrow .boolean (.int v) = .int v) (hv : v = r) (hdg : decode cc pc = .ok (.ireturn, 1)) : W p l e R s m args below meth c s.heap [] 0 0 (MQ below (vp_Si (fun x => x = r)) args s 0 0 (fun _ => False)) (F0 m pc ls [.int v]) := W.zret hx hb hr hn (fun _ ht _ => ⟨v, rfl, hv, ht⟩) (fun _ h => by cases h) hdg hlk
theorem eR_l {r v : Int64} (hx : p.tables.exec = Jvm.exec) (hb : c.code = cc) (hr : meth.sig.returnType = some .long) (hlk : meth.locks = false) (hv : v = r) (hdg : decode cc pc = .ok (.lreturn, 1)) : W p l e R s m args below meth c s.heap [] 0 0 (MQ below (vp_Sl (fun x => x = r)) args s 0 0 (fun _ => False)) (F0 m pc ls [.long v]) := W.lret hx hb hr (fun _ ht _ => ⟨v, rfl, hv, ht⟩) (fun _ h => by cases h) hdg hlk
theorem eR_r {r : Nat} {cn : String} (hx : p.tables.exec = Jvm.exec) (hb : c.code = cc) (hr : meth.sig.returnType = some (.object cn)) (hlk : meth.locks = false) (hdg : decode cc pc = .ok (.areturn, 1)) : W p l e R s m args below meth c s.heap [] 0 0 (MQ below (Sref r) args s 0 0 (fun _ => False)) (F0 m pc ls [.ref r]) := W.aret hx hb hr (Or.inl ⟨_, rfl⟩) (Or.inr ⟨_, rfl⟩) (fun _ ht _ => ⟨rfl, ht⟩) (fun _ h => by cases h) hdg hlk
theorem eM_i {r v : Int32} (hx : p.tables.exec = Jvm.exec) (hb : c.code = cc) (hr : meth.sig.returnType = some .int) (hlk : meth.locks = false) (hP : va_P (gD g) vwCl w1 H) (hD : va_D A w1) (hS : va_S A s.heap H locs) (hv : v = r) (hdg : decode cc pc = .ok (.ireturn, 1)) : W p l e R s m args below meth c H locs 0 0 (MQ below (Qi g r w1 A) args s 0 0 A) (F0 m pc ls [.int v]) := W.iret hx hb hr (fun t ht _ => ⟨⟨v, (), rfl, hv, by rw [ht]; exact hP, hD⟩, hS.F ht⟩) hS.2.2 hdg hlk
theorem eM_z {r v : Int32} (hx : p.tables.exec = Jvm.exec) (hb : c.code = cc) (hr : meth.sig.returnType = some .boolean) (hlk : meth.locks = false) (hn : narrow .boolean (.int v) = .int v) (hP : va_P (gD g) vwCl w1 H) (hD : va_D A w1) (hS : va_S A s.heap H locs) (hv : v = r) (hdg : decode cc pc = .ok (.ireturn, 1)) : W p l e R s m args below meth c H locs 0 0 (MQ below (Qi g r w1 A) args s 0 0 A) (F0 m pc ls [.int v]) := W.zret hx hb hr hn (fun t ht _ => ⟨⟨v, (), rfl, hv, by rw [ht]; exact hP, hD⟩, hS.F ht⟩) hS.2.2 hdg hlk
theorem eM_l {r v : Int64} (hx : p.tables.exec = Jvm.exec) (hb : c.code = cc) (hr : meth.sig.returnType = some .long) (hlk : meth.locks = false) (hP : va_P (gD g) vwCl w1 H) (hD : va_D A w1) (hS : va_S A s.heap H locs) (hv : v = r) (hdg : decode cc pc = .ok (.lreturn, 1)) : W p l e R s m args below meth c H locs 0 0 (MQ below (Ql g r w1 A) args s 0 0 A) (F0 m pc ls [.long v]) := W.lret hx hb hr (fun t ht _ => ⟨⟨v, (), rfl, hv, by rw [ht]; exact hP, hD⟩, hS.F ht⟩) hS.2.2 hdg hlk
theorem eM_v (hx : p.tables.exec = Jvm.exec) (hb : c.code = cc) (hr : meth.sig.returnType = none) (hlk : meth.locks = false) (hP : va_P (gD g) vwCl w1 H) (hD : va_D A w1) (hS : va_S A s.heap H locs) (hdg : decode cc pc = .ok (.return_, 1)) : W p l e R s m args below meth c H locs 0 0 (MQ below (Qv g w1 A) args s 0 0 A) (F0 m pc ls []) := W.vret hx hb hr (fun t ht _ => ⟨⟨(), rfl, trivial, by rw [ht]; exact hP, hD⟩, hS.F ht⟩) hS.2.2 hdg hlk
/-- the static rows -/
theorem gX.ti_ (hG : gX g A s s.heap) : va_T .int (gU g) 7 (fun j => .int (sU j)) A s s.heap ∧ va_T .int (gM g) 7 (fun j => .int (sM j)) A s s.heap ∧ va_T .int (gH g) 7 (fun j => .int (sH j)) A s s.heap := hG.2.2.2.2
end KITS
/-- what a body's walk has at hand -/
def Cx (p : Program) (s : State) (m : MethodId) (meth : Method) (c : Code) (cc : ByteArray) (nL : Nat) (ret : Option FieldType) (own : String) (wd : List Cond) (args : Array Value) : Prop := p.tables.exec = Jvm.exec ∧ c.code = cc ∧ c.maxLocals = nL ∧ s.vm.findClass own = some m.cls ∧ (∀ w ∈ wd, w.before args s = true) ∧ meth.sig.returnType = ret ∧ meth.locks = false ∧ meth.name = meth.name
theorem ofR {l : Launch} {g : bG} {y : MethodName} {wd wd' : List Cond} {rm : Room} {av : List Value} {ws : va_W} {Qc : Array Value → State → Outcome → State → Prop} {cc : ByteArray} {nL : Nat} {ret : Option FieldType} (hy : plainName y.cls = true) (hw : wd = Cond.code y cc nL ret :: wd') (hL : (lg_sl av).length ≤ nL)
    (body : ∀ (p : Program) (e : Env) (s : State) (m : MethodId) (below : List Frame) (meth : Method) (c : Code) (ar : Array Value), Cx p s m meth c cc nL ret y.cls wd ar → va_P (gD g) vwCl ws s.heap → gX g (fun _ => False) s s.heap → ∀ ls : Array Slot, lv_has ls nL (lv_args 0 av) → W p l e rm s m ar below meth c s.heap [] 0 0 (MQ below Qc ar s 0 0 (fun _ => False)) (F0 m 0 ls [])) : Met l y wd rm (Rpre g av ws) Qc 0 0 (fun _ => False) := by
  refine Met.ofW (cc := cc) (maxL := nL) (ret := ret) hy hw ?_
  intro p e s m args below meth c s₁ B hml hv
  obtain ⟨rfl, hP, hG⟩ := hv
  have hts := atoms_spec (ws := wd) B.pre
  have hl := lv_entry av (n := nL) hL
  rw [lg_entry_eq]
  exact body p e s m below meth c _ ⟨B.exec, B.bytes, hml, findClass_of_methodNamed B.named, hts, B.returns, B.notSynchronized, rfl⟩ hP hG _ hl
theorem ofM {l : Launch} {g : bG} {y : MethodName} {wd wd' : List Cond} {rm : Room} {av : List Value} {ws : va_W} {Qc : (Nat → Prop) → Array Value → State → Outcome → State → Prop} {cc : ByteArray} {nL : Nat} {ret : Option FieldType} (hy : plainName y.cls = true) (hw : wd = Cond.code y cc nL ret :: wd') (hL : (lg_sl av).length ≤ nL)
    (body : ∀ (p : Program) (e : Env) (s : State) (m : MethodId) (below : List Frame) (meth : Method) (c : Code) (ar : Array Value) (A : Nat → Prop), Cx p s m meth c cc nL ret y.cls wd ar → (∀ q : Nat, s.heap.size ≤ q → A q) → va_P (gD g) vwCl ws s.heap → va_D A ws → gX g A s s.heap → ∀ ls : Array Slot, lv_has ls nL (lv_args 0 av) → W p l e rm s m ar below meth c s.heap [] 0 0 (MQ below (Qc A) ar s 0 0 A) (F0 m 0 ls [])) : ∀ sz : Nat, Met l y wd rm (Mpre g av ws sz) (Qc (va_A ws sz)) 0 0 (va_A ws sz) := by
  intro sz
  refine Met.ofW (cc := cc) (maxL := nL) (ret := ret) hy hw ?_
  intro p e s m args below meth c s₁ B hml hv
  obtain ⟨rfl, rfl, hP, hD, hG⟩ := hv
  have hts := atoms_spec (ws := wd) B.pre
  have hl := lv_entry av (n := nL) hL
  rw [lg_entry_eq]
  exact body p e s m below meth c _ _ ⟨B.exec, B.bytes, hml, findClass_of_methodNamed B.named, hts, B.returns, B.notSynchronized, rfl⟩ (fun q h => Or.inr h) hP hD.self hG _ hl
