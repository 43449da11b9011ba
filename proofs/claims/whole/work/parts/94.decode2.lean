theorem am_ckd_7 : (List.range' 120 14).all am_ckd = true := by decide +kernel
theorem am_ckd_8 : (List.range' 134 17).all am_ckd = true := by decide +kernel
theorem am_ckd_9 : (List.range' 151 15).all am_ckd = true := by decide +kernel
theorem am_ckd_10 : (List.range' 166 7).all am_ckd = true := by decide +kernel
theorem am_ckd_11 : (List.range' 173 11).all am_ckd = true := by decide +kernel
theorem am_ckd_12 : (List.range' 184 8).all am_ckd = true := by decide +kernel
theorem am_ckd_13 : (List.range' 192 10).all am_ckd = true := by decide +kernel
