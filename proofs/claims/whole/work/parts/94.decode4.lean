theorem am_ckL_3 : (List.range' 495 165).all (am_ck1 231) = true := by decide +kernel
theorem am_ckL_4 : (List.range' 660 165).all (am_ck1 231) = true := by decide +kernel
theorem am_ckL_5 : (List.range' 825 165).all (am_ck1 231) = true := by decide +kernel
theorem am_ckL_6 : (List.range' 990 165).all (am_ck1 231) = true := by decide +kernel
theorem am_ckL_7 : (List.range' 1155 157).all (am_ck1 231) = true := by decide +kernel
