/-! ===== more pairs ===== -/
theorem P_patch {m : am_M} (hI : Inv m) (f k : Int) (hbf : -2147483648 ≤ f ∧ f ≤ 2147483647) (hbk : -2147483648 ≤ k ∧ k ≤ 2147483647) : Pr 131 [some (.ref 3), some (.int (iI f)), some (.int (iI k))] 202 [some (.ref 109), some (.int (iI f)), some (.int (iI k)), none] m := by
  obtain ⟨n, E, C, tp, sz, lt, i1, i2, i3, i4, i5, i6, i7, i8, i9⟩ := id hI
  refine S_cpatch m _ f k hbf hbk (S_mpatchK m _ f k hbf hbk (fun m1 f1 => ⟨?_, ⟨_, rfl⟩, hI.scr (f1.sub (by decide) (by decide))⟩))
  rw [A_patch i4]
theorem P_log {m : am_M} (hI : Inv m) (i w : Int) (hbi : -2147483648 ≤ i ∧ i ≤ 2147483647) (hbw : -2147483648 ≤ w ∧ w ≤ 2147483647) : Pr 123 [some (.ref 3), some (.int (iI i)), some (.int (iI w)), none] 188 [some (.ref 109), some (.int (iI i)), some (.int (iI w)), none, none, none] m := by
  obtain ⟨n, E, C, tp, sz, lt, i1, i2, i3, i4, i5, i6, i7, i8, i9⟩ := id hI
  refine S_clog m _ i4.bk i4.jb E i4.1.ever.1 i4.2.1 i w hbi hbw (S_mlog m _ E i4.1.ever.1 i4.1.ever.2 i w hbi hbw (fun m1 f1 => ⟨?_, ⟨_, rfl⟩, hI.scr (f1.sub (by decide) (by decide))⟩))
  rw [A_log i4]
theorem P_place {m : am_M} (hI : Inv m) (k : Int) (hbk : -2147483648 ≤ k ∧ k ≤ 2147483647) : Pr 136 [some (.ref 3), some (.int (iI k))] 215 [some (.ref 109), some (.int (iI k))] m := by
  obtain ⟨n, E, C, tp, sz, lt, i1, i2, i3, i4, i5, i6, i7, i8, i9⟩ := id hI
  have hC : CR m C := ⟨i4.1.crews.1, i4.1.crews.2, fun k hk => by have := i4.1.stands k hk; rw [this.1]; exact this.2⟩
  refine S_cplace m _ k hbk (S_mplace m _ C hC k hbk ⟨?_, ⟨_, rfl⟩, hI⟩)
  have a := A_crew i4 k
  rw [a.1]
  by_cases z : mco m k = true
  · rw [if_pos z, if_pos z, (a.2 z).2]
  · rw [if_neg z, if_neg z]
theorem P_sent {m : am_M} (hI : Inv m) (f : Int) (hbf : -2147483648 ≤ f ∧ f ≤ 2147483647) : Pr 140 [some (.ref 3), some (.int (iI f))] 219 [some (.ref 109), some (.int (iI f))] m := by
  obtain ⟨n, E, C, tp, sz, lt, i1, i2, i3, i4, i5, i6, i7, i8, i9⟩ := id hI
  refine S_csent m _ f hbf (S_msent m _ f hbf ⟨?_, ⟨_, rfl⟩, hI⟩)
  by_cases z : inR f 0 19 = true
  · rw [if_pos z, if_pos z, i6 f.toNat (by have := of_decide_eq_true z; omega)]
  · rw [if_neg z, if_neg z]
theorem P_claim {m : am_M} (hI : Inv m) (i f : Int) (hbi : -2147483648 ≤ i ∧ i ≤ 2147483647) (hbf : -2147483648 ≤ f ∧ f ≤ 2147483647) : Pr 144 [some (.ref 3), some (.int (iI i)), some (.int (iI f))] 224 [some (.ref 109), some (.int (iI i)), some (.int (iI f))] m := by
  refine S_cclaim m _ i f hbi hbf (fun z => S_mclaim m _ i f hbi hbf (fun _ => ⟨rfl, ⟨_, rfl⟩, hI⟩) (fun w => by rw [z] at w; cases w)) (fun z => S_mclaim _ _ i f hbi hbf (fun w => by rw [z] at w; cases w) (fun _ => ⟨rfl, ⟨_, rfl⟩, hI.claim _ _⟩))
theorem P_count {m : am_M} (hI : Inv m) (w : Int) (hbw : -2147483648 ≤ w ∧ w ≤ 2147483647) : Pr 147 [some (.ref 3), some (.int (iI w))] 226 [some (.ref 109), some (.int (iI w)), none, none] m := by
  obtain ⟨n, E, C, tp, sz, lt, i1, i2, i3, i4, i5, i6, i7, i8, i9⟩ := id hI
  refine S_ccount m _ w hbw (S_mcount m _ i1.2.1.2.2.2 w hbw ⟨?_, ⟨_, rfl⟩, hI⟩)
  rw [A_count i1 i3 i4 (by rw [i9.2.2.2.2.1, i9.2.2.2.2.2.1])]
