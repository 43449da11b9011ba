/-! ===== the two constructors, run ===== -/
noncomputable def cx_A : Option cx_T := cx 6000 231 12 0 [some (.ref 2), none, none, none] [] (am_m0 0 (fun _ => 0))
def cx_chk (o : Option cx_T) (f : cx_T → Bool) : Bool := match o with
  | some q => f q
  | none => false
def cx_fA (q : cx_T) : Bool := decide (q.1 = [some (.ref 2), some (.ref 3), none, none]) && (decide (q.2.1 = [.ref 109, .ref 109]) && (decide (q.2.2.2.1 = 12) && (decide (am_n q.2.2.1 = 107) && (decide (q.2.2.2.2.1 = 107) && Nat.ble q.2.2.2.2.2 50000))))
set_option maxRecDepth 100000 in
theorem cx_tA : cx_chk cx_A cx_fA = true := by decide +kernel
noncomputable def cx_m (o : Option cx_T) : am_M := match o with
  | some q => q.2.2.1
  | none => am_m0 0 (fun _ => 0)
noncomputable def cx_B : Option cx_T := cx 1000 160 197 0 [some (.ref 109)] [] (cx_m cx_A)
def cx_fB (q : cx_T) : Bool := decide (q.1 = [some (.ref 109)]) && (decide (q.2.1 = [.ref 109]) && (decide (q.2.2.2.1 = 197) && (decide (am_n q.2.2.1 = 130) && (decide (q.2.2.2.2.1 = 23) && Nat.ble q.2.2.2.2.2 50000))))
set_option maxRecDepth 100000 in
theorem cx_tB : cx_chk cx_B cx_fB = true := by decide +kernel
/-- the layout is what stands there -/
def cx_lay (c : am_M) : Bool := (List.range 133).all fun a => (cond (Nat.ble 3 a) (match YL.2 a with | some k => decide (c.2.2.2.1 a = k) | none => false) true) && (List.range 29).all fun j => match YL.1 a j with | some b => Nat.ble 3 a && decide (c.2.2.1 a j = some b) | none => true
set_option maxRecDepth 100000 in
theorem cx_tL : cx_lay (cx_m cx_B) = true := by decide +kernel
def cx_al (c : am_M) (a n : Nat) (v : Int32) : Bool := (List.range n).all fun j => decide (c.1 a j = v)
def cx_val (c : am_M) : Bool := cx_al c 5 256 0 && (cx_al c 6 256 0 && ((List.range 4).all (fun w => decide (c.2.1 8 w = 0)) && (decide (c.1 9 7 = 0) && (decide (c.1 9 8 = -2) && (decide (c.1 9 9 = 0) && (decide (c.1 34 3 = 0) && ((List.range 60).all (fun i => decide (c.2.2.1 35 i = none)) && (cx_al c 36 60 (-1) && (cx_al c 37 60 (-1) && (decide (c.1 38 8 = 0) && (decide (c.1 87 6 = -1) && (cx_al c 90 256 0 && (decide (c.1 91 6 = 0) && (cx_al c 93 20 (-1) && (decide (c.1 97 4 = 0) && (decide (c.1 97 5 = 0) && (decide (c.1 109 14 = 0) && (cx_al c 110 16 0 && (cx_al c 111 256 0 && cx_al c 112 256 0)))))))))))))))))))
set_option maxRecDepth 100000 in
theorem cx_tV : cx_val (cx_m cx_B) = true := by decide +kernel
