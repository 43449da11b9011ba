theorem am_ckd_14 : (List.range' 202 6).all am_ckd = true := by decide +kernel
theorem am_ckd_15 : (List.range' 208 10).all am_ckd = true := by decide +kernel
theorem am_ckd_16 : (List.range' 218 8).all am_ckd = true := by decide +kernel
theorem am_ckd_17 : (List.range' 226 5).all am_ckd = true := by decide +kernel
theorem am_ckL_0 : (List.range' 0 165).all (am_ck1 231) = true := by decide +kernel
theorem am_ckL_1 : (List.range' 165 165).all (am_ck1 231) = true := by decide +kernel
theorem am_ckL_2 : (List.range' 330 165).all (am_ck1 231) = true := by decide +kernel
