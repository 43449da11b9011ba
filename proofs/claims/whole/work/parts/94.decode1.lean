def am_ck1 (mi pc : Nat) : Bool := match am_code mi pc with | none => true | some (i, l) => decide (decode (am_bytes mi) pc = .ok (i, l))
def am_ckd (mi : Nat) : Bool := (List.range (am_len mi)).all (am_ck1 mi)
theorem am_ckd_0 : (List.range' 0 20).all am_ckd = true := by decide +kernel
theorem am_ckd_1 : (List.range' 20 17).all am_ckd = true := by decide +kernel
theorem am_ckd_2 : (List.range' 37 18).all am_ckd = true := by decide +kernel
theorem am_ckd_3 : (List.range' 55 26).all am_ckd = true := by decide +kernel
theorem am_ckd_4 : (List.range' 81 16).all am_ckd = true := by decide +kernel
theorem am_ckd_5 : (List.range' 97 13).all am_ckd = true := by decide +kernel
theorem am_ckd_6 : (List.range' 110 10).all am_ckd = true := by decide +kernel
