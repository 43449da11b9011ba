theorem am_ckd_all (mi : Nat) (h : mi < 232) : am_ckd mi = true := by
  by_cases h0 : mi < 20
  · exact List.all_eq_true.mp am_ckd_0 mi (List.mem_range'_1.mpr ⟨by omega, by omega⟩)
  by_cases h1 : mi < 37
  · exact List.all_eq_true.mp am_ckd_1 mi (List.mem_range'_1.mpr ⟨by omega, by omega⟩)
  by_cases h2 : mi < 55
  · exact List.all_eq_true.mp am_ckd_2 mi (List.mem_range'_1.mpr ⟨by omega, by omega⟩)
  by_cases h3 : mi < 81
  · exact List.all_eq_true.mp am_ckd_3 mi (List.mem_range'_1.mpr ⟨by omega, by omega⟩)
  by_cases h4 : mi < 97
  · exact List.all_eq_true.mp am_ckd_4 mi (List.mem_range'_1.mpr ⟨by omega, by omega⟩)
  by_cases h5 : mi < 110
  · exact List.all_eq_true.mp am_ckd_5 mi (List.mem_range'_1.mpr ⟨by omega, by omega⟩)
  by_cases h6 : mi < 120
  · exact List.all_eq_true.mp am_ckd_6 mi (List.mem_range'_1.mpr ⟨by omega, by omega⟩)
  by_cases h7 : mi < 134
  · exact List.all_eq_true.mp am_ckd_7 mi (List.mem_range'_1.mpr ⟨by omega, by omega⟩)
  by_cases h8 : mi < 151
  · exact List.all_eq_true.mp am_ckd_8 mi (List.mem_range'_1.mpr ⟨by omega, by omega⟩)
  by_cases h9 : mi < 166
  · exact List.all_eq_true.mp am_ckd_9 mi (List.mem_range'_1.mpr ⟨by omega, by omega⟩)
  by_cases h10 : mi < 173
  · exact List.all_eq_true.mp am_ckd_10 mi (List.mem_range'_1.mpr ⟨by omega, by omega⟩)
  by_cases h11 : mi < 184
  · exact List.all_eq_true.mp am_ckd_11 mi (List.mem_range'_1.mpr ⟨by omega, by omega⟩)
  by_cases h12 : mi < 192
  · exact List.all_eq_true.mp am_ckd_12 mi (List.mem_range'_1.mpr ⟨by omega, by omega⟩)
  by_cases h13 : mi < 202
  · exact List.all_eq_true.mp am_ckd_13 mi (List.mem_range'_1.mpr ⟨by omega, by omega⟩)
  by_cases h14 : mi < 208
  · exact List.all_eq_true.mp am_ckd_14 mi (List.mem_range'_1.mpr ⟨by omega, by omega⟩)
  by_cases h15 : mi < 218
  · exact List.all_eq_true.mp am_ckd_15 mi (List.mem_range'_1.mpr ⟨by omega, by omega⟩)
  by_cases h16 : mi < 226
  · exact List.all_eq_true.mp am_ckd_16 mi (List.mem_range'_1.mpr ⟨by omega, by omega⟩)
  by_cases h17 : mi < 231
  · exact List.all_eq_true.mp am_ckd_17 mi (List.mem_range'_1.mpr ⟨by omega, by omega⟩)
  have e : mi = 231 := by omega
  subst e
  refine List.all_eq_true.mpr (fun pc hpc => ?_)
  have hpc : pc < 1312 := List.mem_range.mp hpc
  by_cases g0 : pc < 165
  · exact List.all_eq_true.mp am_ckL_0 pc (List.mem_range'_1.mpr ⟨by omega, by omega⟩)
  by_cases g1 : pc < 330
  · exact List.all_eq_true.mp am_ckL_1 pc (List.mem_range'_1.mpr ⟨by omega, by omega⟩)
  by_cases g2 : pc < 495
  · exact List.all_eq_true.mp am_ckL_2 pc (List.mem_range'_1.mpr ⟨by omega, by omega⟩)
  by_cases g3 : pc < 660
  · exact List.all_eq_true.mp am_ckL_3 pc (List.mem_range'_1.mpr ⟨by omega, by omega⟩)
  by_cases g4 : pc < 825
  · exact List.all_eq_true.mp am_ckL_4 pc (List.mem_range'_1.mpr ⟨by omega, by omega⟩)
  by_cases g5 : pc < 990
  · exact List.all_eq_true.mp am_ckL_5 pc (List.mem_range'_1.mpr ⟨by omega, by omega⟩)
  by_cases g6 : pc < 1155
  · exact List.all_eq_true.mp am_ckL_6 pc (List.mem_range'_1.mpr ⟨by omega, by omega⟩)
  by_cases g7 : pc < 1312
  · exact List.all_eq_true.mp am_ckL_7 pc (List.mem_range'_1.mpr ⟨by omega, by omega⟩)
  omega
theorem am_dec {mi pc l : Nat} {i : Instr} (h : am_code mi pc = some (i, l)) : decode (am_bytes mi) pc = .ok (i, l) := by
  unfold am_code at h
  by_cases hb : Nat.ble (am_len mi) pc = true
  · rw [hb] at h; cases h
  · have hpc : pc < am_len mi := by
      have : ¬ am_len mi ≤ pc := fun z => hb (Nat.ble_eq_true_of_le z)
      omega
    have hmi : mi < 232 := by
      rcases Nat.lt_or_ge mi 232 with q | q
      · exact q
      · have z : am_len mi = 0 := by unfold am_len; rw [Nat.ble_eq_true_of_le q]; rfl
        omega
    have hk := List.all_eq_true.mp (am_ckd_all mi hmi) pc (List.mem_range.mpr hpc)
    have e : am_code mi pc = some (i, l) := by unfold am_code; exact h
    unfold am_ck1 at hk
    rw [e] at hk
    exact of_decide_eq_true hk
