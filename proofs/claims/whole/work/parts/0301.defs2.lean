/-! ===== constructors as pure texts, by program ===== -/
def f_X6_init_b48 : Nat → Int32 → (Nat → Int32) → (Nat → Int32) → (Nat → Int32) → Option ((Nat → Int32) × (Nat → Int32) × (Nat → Int32))
  | 0, _, _, _, _ => none
  | n + 1, x1, v_drawn, v_next, v_orders => if x1 < 0 then some (v_drawn, v_next, v_orders) else (f_X6_linkAndCount v_drawn v_next v_orders x1).bind fun z4 => ((f_X6_init_b48 n (x1 + (-1)) v_drawn z4.1 z4.2))
theorem f_X6_init_b48_z  (x1 : Int32) (v_drawn : Nat → Int32) (v_next : Nat → Int32) (v_orders : Nat → Int32) : f_X6_init_b48 0 x1 v_drawn v_next v_orders = none := rfl
theorem f_X6_init_b48_s  (n : Nat) (x1 : Int32) (v_drawn : Nat → Int32) (v_next : Nat → Int32) (v_orders : Nat → Int32) : f_X6_init_b48 (n + 1) x1 v_drawn v_next v_orders = if x1 < 0 then some (v_drawn, v_next, v_orders) else (f_X6_linkAndCount v_drawn v_next v_orders x1).bind fun z4 => ((f_X6_init_b48 n (x1 + (-1)) v_drawn z4.1 z4.2)) := rfl
def f_X6_init : Option ((Nat → Int32) × (Nat → Int32) × (Nat → Int32)) := (f_X6_listBeetles (fun _ => 0)).bind fun z1 => ((f_X6_init_b48 FU (140 : Int32) z1 (fun _ => 0) (fun _ => 0)))
def f_X10_init_b24 (k14 : Int32 → (Nat → Int32) → Option ((Nat → Int32))) : Nat → Int32 → Int32 → Int32 → (Nat → Int32) → Option ((Nat → Int32))
  | 0, _, _, _, _ => none
  | n + 1, x1, x2, x3, v_wins => if (6 : Int32) < x3 then chk x1 100 ((k14 (x1 + 1) (upd v_wins (Int32.toNatClampNeg x1) x2))) else (f_X10_winningTurn v_wins x1 x3).bind fun z4 => (if z4 = (-6 : Int32) then (f_X10_init_b24 k14 n x1 x2 (x3 + 1) v_wins) else (f_X10_init_b24 k14 n x1 (x2 ||| ((1 : Int32) <<< (x3 &&& 31))) (x3 + 1) v_wins))
theorem f_X10_init_b24_z (k14 : Int32 → (Nat → Int32) → Option ((Nat → Int32))) (x1 : Int32) (x2 : Int32) (x3 : Int32) (v_wins : Nat → Int32) : f_X10_init_b24 k14 0 x1 x2 x3 v_wins = none := rfl
theorem f_X10_init_b24_s (k14 : Int32 → (Nat → Int32) → Option ((Nat → Int32))) (n : Nat) (x1 : Int32) (x2 : Int32) (x3 : Int32) (v_wins : Nat → Int32) : f_X10_init_b24 k14 (n + 1) x1 x2 x3 v_wins = if (6 : Int32) < x3 then chk x1 100 ((k14 (x1 + 1) (upd v_wins (Int32.toNatClampNeg x1) x2))) else (f_X10_winningTurn v_wins x1 x3).bind fun z4 => (if z4 = (-6 : Int32) then (f_X10_init_b24 k14 n x1 x2 (x3 + 1) v_wins) else (f_X10_init_b24 k14 n x1 (x2 ||| ((1 : Int32) <<< (x3 &&& 31))) (x3 + 1) v_wins)) := rfl
def f_X10_init_b14 : Nat → Int32 → (Nat → Int32) → Option ((Nat → Int32))
  | 0, _, _ => none
  | n + 1, x1, v_wins => if (99 : Int32) < x1 then some (v_wins) else (f_X10_init_b24 (f_X10_init_b14 n) FU x1 (0 : Int32) (1 : Int32) v_wins)
theorem f_X10_init_b14_z  (x1 : Int32) (v_wins : Nat → Int32) : f_X10_init_b14 0 x1 v_wins = none := rfl
theorem f_X10_init_b14_s  (n : Nat) (x1 : Int32) (v_wins : Nat → Int32) : f_X10_init_b14 (n + 1) x1 v_wins = if (99 : Int32) < x1 then some (v_wins) else (f_X10_init_b24 (f_X10_init_b14 n) FU x1 (0 : Int32) (1 : Int32) v_wins) := rfl
def f_X10_init : Option ((Nat → Int32)) := (f_X10_init_b14 FU (0 : Int32) (fun _ => 0))
def f_X12_init_b145 : Nat → Int32 → (Nat → Int32) → (Nat → Int32) → Option ((Nat → Int32) × (Nat → Int32))
  | 0, _, _, _ => none
  | n + 1, x1, v_most, v_isIn => if (6 : Int32) ≤ x1 then chk (0 : Int32) 6 (chk (1 : Int32) 6 (chk (2 : Int32) 6 (chk (3 : Int32) 6 (chk (4 : Int32) 6 (chk (5 : Int32) 6 (some ((upd (upd (upd (upd (upd (upd v_most (Int32.toNatClampNeg (0 : Int32)) (1 : Int32)) (Int32.toNatClampNeg (1 : Int32)) (1 : Int32)) (Int32.toNatClampNeg (2 : Int32)) (1 : Int32)) (Int32.toNatClampNeg (3 : Int32)) (6 : Int32)) (Int32.toNatClampNeg (4 : Int32)) (2 : Int32)) (Int32.toNatClampNeg (5 : Int32)) (2 : Int32)), v_isIn))))))) else chk x1 6 ((f_X12_init_b145 n (x1 + 1) v_most (upd v_isIn (Int32.toNatClampNeg x1) (1 : Int32))))
theorem f_X12_init_b145_z  (x1 : Int32) (v_most : Nat → Int32) (v_isIn : Nat → Int32) : f_X12_init_b145 0 x1 v_most v_isIn = none := rfl
theorem f_X12_init_b145_s  (n : Nat) (x1 : Int32) (v_most : Nat → Int32) (v_isIn : Nat → Int32) : f_X12_init_b145 (n + 1) x1 v_most v_isIn = if (6 : Int32) ≤ x1 then chk (0 : Int32) 6 (chk (1 : Int32) 6 (chk (2 : Int32) 6 (chk (3 : Int32) 6 (chk (4 : Int32) 6 (chk (5 : Int32) 6 (some ((upd (upd (upd (upd (upd (upd v_most (Int32.toNatClampNeg (0 : Int32)) (1 : Int32)) (Int32.toNatClampNeg (1 : Int32)) (1 : Int32)) (Int32.toNatClampNeg (2 : Int32)) (1 : Int32)) (Int32.toNatClampNeg (3 : Int32)) (6 : Int32)) (Int32.toNatClampNeg (4 : Int32)) (2 : Int32)) (Int32.toNatClampNeg (5 : Int32)) (2 : Int32)), v_isIn))))))) else chk x1 6 ((f_X12_init_b145 n (x1 + 1) v_most (upd v_isIn (Int32.toNatClampNeg x1) (1 : Int32)))) := rfl
def f_X12_init : Option ((Nat → Int32) × (Nat → Int32)) := (f_X12_init_b145 FU (0 : Int32) (fun _ => 0) (fun _ => 0))
