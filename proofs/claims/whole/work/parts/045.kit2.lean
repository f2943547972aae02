/-! ===== constructors: arrays of the known classes, the contract with the new addresses ===== -/
def Qk (g : bG) (h0 : Nat) (w1 : (Nat → Nat) → va_W) (A : Nat → Prop) : Array Value → State → Outcome → State → Prop := va_Qv (S := Nat → Nat) (fun q => q 0 = h0) (fun q t => Mpost g (w1 q) A t) A
def Kv (l : Launch) (g : bG) (y : MethodName) (wd : List Cond) (rm : Room) (h0 : Nat) (ws : va_W) (w1 : (Nat → Nat) → va_W) (mc ms : Nat) : Prop := ∀ sz : Nat, Met l y wd rm (Mpre g [.ref h0] ws sz) (Qk g h0 w1 (va_A ws sz)) mc ms (va_A ws sz)
def qL (xs : List Nat) : Nat → Nat := fun k => xs.getD k 0
section KIT2
variable {p : Program} {l : Launch} {e : Env} {R : Room} {s : State} {m : MethodId} {args : Array Value} {below : List Frame} {meth : Method} {c : Code} {H : Heap} {locs : List Loc} {cells slots : Nat} {Q : State → Prop} {cc : ByteArray} {pc : Nat} {ls : Array Slot} {rest st0 : List Value} {a : Array Value} {A : Nat → Prop} {g : bG} {ws wc wr w2 : va_W}
theorem k_newi (hx : p.tables.exec = Jvm.exec) (hb : c.code = cc) (harr : (Cond.arrayClass .int).before args s = true) (hK : va_K (gD g) vwCl (gTy g) s) (hP : va_P (gD g) vwCl ws H) (hD : va_D A ws) (hS : va_S A s.heap H locs) (hA : ∀ q, s.heap.size ≤ q → A q) {n : Int32} {N : Nat} (hn : ¬ n < 0) (hN : n.toNatClampNeg = N) (hbytes : N * componentBytes .int ≤ 536870912) (hcells : cells + 1 ≤ R.cells) (hslots : slots + N ≤ R.slots) (hdg : decode cc pc = .ok (.newarray .int, 2))
    (kk : ∀ (q : Nat) (H1 : Heap), va_P (gD g) vwCl (ws ++ [(q, .inl (gI g, N, .inl (fun _ => 0)))]) H1 → va_D A (ws ++ [(q, .inl (gI g, N, .inl (fun _ => 0)))]) → va_S A s.heap H1 locs → W p l e R s m args below meth c H1 locs (cells + 1) (slots + N) Q (F0 m (pc + 2) ls (.ref q :: rest))) : W p l e R s m args below meth c H locs cells slots Q (F0 m pc ls (.int n :: rest)) := by
  refine va_newa (atype := .int) (ty := .int) (a0 := (N, .inl (fun _ => 0))) hx hb harr rfl hK hP hD hS hA (fun _ => rfl) hn hN hbytes hcells hslots hdg (fun q cA H1 hK1 hP1 hD1 hS1 => ?_)
  have e1 := va_nm_int (hK1.2 3 (cA, .int) rfl).2
  have e2 := va_nm_int (hK.2 0 (gI g, .int) rfl).2
  cases Option.some.inj (e1.symm.trans e2)
  exact kk q H1 hP1 hD1 hS1
theorem k_newl (hx : p.tables.exec = Jvm.exec) (hb : c.code = cc) (harr : (Cond.arrayClass .long).before args s = true) (hK : va_K (gD g) vwCl (gTy g) s) (hP : va_P (gD g) vwCl ws H) (hD : va_D A ws) (hS : va_S A s.heap H locs) (hA : ∀ q, s.heap.size ≤ q → A q) {n : Int32} {N : Nat} (hn : ¬ n < 0) (hN : n.toNatClampNeg = N) (hbytes : N * componentBytes .long ≤ 536870912) (hcells : cells + 1 ≤ R.cells) (hslots : slots + N ≤ R.slots) (hdg : decode cc pc = .ok (.newarray .long, 2))
    (kk : ∀ (q : Nat) (H1 : Heap), va_P (gD g) vwCl (ws ++ [(q, .inl (gJ g, N, .inr (.inl (fun _ => 0))))]) H1 → va_D A (ws ++ [(q, .inl (gJ g, N, .inr (.inl (fun _ => 0))))]) → va_S A s.heap H1 locs → W p l e R s m args below meth c H1 locs (cells + 1) (slots + N) Q (F0 m (pc + 2) ls (.ref q :: rest))) : W p l e R s m args below meth c H locs cells slots Q (F0 m pc ls (.int n :: rest)) := by
  refine va_newa (atype := .long) (ty := .long) (a0 := (N, .inr (.inl (fun _ => 0)))) hx hb harr rfl hK hP hD hS hA (fun _ => rfl) hn hN hbytes hcells hslots hdg (fun q cA H1 hK1 hP1 hD1 hS1 => ?_)
  have e1 := va_nm_long (hK1.2 3 (cA, .long) rfl).2
  have e2 := va_nm_long (hK.2 1 (gJ g, .long) rfl).2
  cases Option.some.inj (e1.symm.trans e2)
  exact kk q H1 hP1 hD1 hS1
theorem k_newz (hx : p.tables.exec = Jvm.exec) (hb : c.code = cc) (harr : (Cond.arrayClass .boolean).before args s = true) (hK : va_K (gD g) vwCl (gTy g) s) (hP : va_P (gD g) vwCl ws H) (hD : va_D A ws) (hS : va_S A s.heap H locs) (hA : ∀ q, s.heap.size ≤ q → A q) {n : Int32} {N : Nat} (hn : ¬ n < 0) (hN : n.toNatClampNeg = N) (hbytes : N * componentBytes .boolean ≤ 536870912) (hcells : cells + 1 ≤ R.cells) (hslots : slots + N ≤ R.slots) (hdg : decode cc pc = .ok (.newarray .boolean, 2))
    (kk : ∀ (q : Nat) (H1 : Heap), va_P (gD g) vwCl (ws ++ [(q, .inl (gZ g, N, .inl (fun _ => 0)))]) H1 → va_D A (ws ++ [(q, .inl (gZ g, N, .inl (fun _ => 0)))]) → va_S A s.heap H1 locs → W p l e R s m args below meth c H1 locs (cells + 1) (slots + N) Q (F0 m (pc + 2) ls (.ref q :: rest))) : W p l e R s m args below meth c H locs cells slots Q (F0 m pc ls (.int n :: rest)) := by
  refine va_newa (atype := .boolean) (ty := .boolean) (a0 := (N, .inl (fun _ => 0))) hx hb harr rfl hK hP hD hS hA (fun _ => rfl) hn hN hbytes hcells hslots hdg (fun q cA H1 hK1 hP1 hD1 hS1 => ?_)
  have e1 := va_nm_boolean (hK1.2 3 (cA, .boolean) rfl).2
  have e2 := va_nm_boolean (hK.2 2 (gZ g, .boolean) rfl).2
  cases Option.some.inj (e1.symm.trans e2)
  exact kk q H1 hP1 hD1 hS1
/-- a constructor's call: the cells that came, by their addresses q -/
theorem kK_v {h0 mc ms : Nat} {w1 : (Nat → Nat) → va_W} (hr : va_Run p l e R s m args below meth c H locs cells slots mc ms (F0 m pc ls st0) rest (Qk g h0 w1 (va_A wc H.size) a) (va_A wc H.size)) (hP : va_P (gD g) vwCl ws H) (hD : va_D A ws) (hS : va_S A s.heap H locs) (hA : ∀ q, s.heap.size ≤ q → A q) (isC isR : List Nat) (hC : isC.map (fun i => ws[i]?) = wc.map some) (hR : isR.map (fun i => ws[i]?) = wr.map some) (hn : va_nd isR = true) (hdis : ∀ i ∈ isR, i ∉ isC)
    (kk : ∀ (q : Nat → Nat), q 0 = h0 → ∀ (H1 : Heap) (locs1 : List Loc), va_P (gD g) vwCl (wr ++ w1 q) H1 → va_D A (wr ++ w1 q) → va_S A s.heap H1 locs1 → W p l e R s m args below meth c H1 locs1 (cells + mc) (slots + ms) Q (F0 m (pc + 3) ls rest)) : W p l e R s m args below meth c H locs cells slots Q (F0 m pc ls st0) := by
  have hF := va_free hD hS hA isC hC
  refine va_callv hr hS (fun q _ h => hF q h) hF (fun u t H1 locs1 ht hvm hw hB hz hk hS1 => ?_)
  obtain ⟨hP1, hD1⟩ := hB
  rw [ht] at hP1
  obtain ⟨hP2, hD2⟩ := va_join hP hD isC isR hC hR hn hdis hk hF hP1 hD1
  exact kk u hw H1 locs1 hP2 hD2 hS1
theorem eK_v {h0 : Nat} {w1 : (Nat → Nat) → va_W} (q : Nat → Nat) (hx : p.tables.exec = Jvm.exec) (hb : c.code = cc) (hr : meth.sig.returnType = none) (hlk : meth.locks = false) (hq : q 0 = h0) (hP : va_P (gD g) vwCl (w1 q) H) (hD : va_D A (w1 q)) (hS : va_S A s.heap H locs) (hdg : decode cc pc = .ok (.return_, 1)) : W p l e R s m args below meth c H locs cells slots (MQ below (Qk g h0 w1 A) args s cells slots A) (F0 m pc ls []) := W.vret hx hb hr (fun t ht _ => ⟨⟨q, rfl, hq, by rw [ht]; exact hP, hD⟩, hS.F ht⟩) hS.2.2 hdg hlk
end KIT2
def Cxk (p : Program) (s : State) (m : MethodId) (meth : Method) (c : Code) (cc : ByteArray) (nL : Nat) (own : String) (wd : List Cond) (args : Array Value) : Prop := p.tables.exec = Jvm.exec ∧ c.code = cc ∧ c.maxLocals = nL ∧ s.vm.findClass own = some m.cls ∧ (∀ w ∈ wd, w.before args s = true) ∧ meth.sig.returnType = none ∧ meth.locks = false ∧ meth.name = "<init>"
theorem ofK {l : Launch} {g : bG} {y : MethodName} {wd wd' : List Cond} {rm : Room} {h0 : Nat} {ws : va_W} {w1 : (Nat → Nat) → va_W} {cc : ByteArray} {nL mc ms : Nat} (hy : plainName y.cls = true) (hyn : y.name = "<init>") (hw : wd = Cond.code y cc nL none :: wd') (hL : (lg_sl [.ref h0]).length ≤ nL)
    (body : ∀ (p : Program) (e : Env) (s : State) (m : MethodId) (below : List Frame) (meth : Method) (c : Code) (ar : Array Value) (A : Nat → Prop), Cxk p s m meth c cc nL y.cls wd ar → (∀ q : Nat, s.heap.size ≤ q → A q) → va_P (gD g) vwCl ws s.heap → va_D A ws → gX g A s s.heap → ∀ ls : Array Slot, lv_has ls nL [(0, .ref h0)] → W p l e rm s m ar below meth c s.heap [] 0 0 (MQ below (Qk g h0 w1 A) ar s mc ms A) (F0 m 0 ls [])) : Kv l g y wd rm h0 ws w1 mc ms := by
  intro sz
  refine Met.ofW (cc := cc) (maxL := nL) (ret := none) hy hw ?_
  intro p e s m args below meth c s₁ B hml hv
  obtain ⟨rfl, rfl, hP, hD, hG⟩ := hv
  have hts := atoms_spec (ws := wd) B.pre
  have hl := lv_entry [.ref h0] (n := nL) hL
  rw [lg_entry_eq]
  exact body p e s m below meth c _ _ ⟨B.exec, B.bytes, hml, findClass_of_methodNamed B.named, hts, B.returns, B.notSynchronized, (name_of_methodNamed B.named B.method).1.trans hyn⟩ (fun q h => Or.inr h) hP hD.self hG _ hl
