/-! ===== the two constructors, run ===== -/
noncomputable def cx_A : Option cx_T := cx 6000 231 12 0 [some (.ref 2), none, none, none] [] (am_m0 0 (fun _ => 0))
def cx_chk (o : Option cx_T) (f : cx_T → Bool) : Bool := match o with
  | some q => f q
  | none => false
def cx_fA (q : cx_T) : Bool := decide (q.1 = [some (.ref 2), some (.ref 3), none, none]) && (decide (q.2.1 = [.ref 109, .ref 109]) && (decide (q.2.2.2.1 = 12) && (decide (am_n q.2.2.1 = 107) && (decide (q.2.2.2.2.1 = 107) && Nat.ble q.2.2.2.2.2 50000))))
set_option maxRecDepth 100000 in
theorem cx_tA : cx_chk cx_A cx_fA = true := by decide +kernel
