/-! ===== class and reference asked alike: first pairs ===== -/
theorem Inv.scr {m m1 : am_M} (h : Fm [119, 120, 121, 122, 123, 124, 125, 127, 128, 129, 130, 131] [6, 7, 8, 9, 10, 11, 12] m m1) (hI : Inv m) : Inv m1 := by
  have ar : Ar [109, 119, 120, 121, 122, 123, 124, 125, 127, 128, 129, 130, 131] m m1 := Ar.fm h (by decide) (by decide)
  refine hI.fr ar (by decide) (by decide) (fun f hf z => by simp only [List.mem_cons, List.not_mem_nil, or_false] at z; omega) (fun t ht z => by simp only [List.mem_cons, List.not_mem_nil, or_false] at z; omega) (h.2.2.1 5 (by decide)) (h.2.2.1 13 (by decide)) (h.2.2.1 14 (by decide)) (fun k f hf => by rw [ar.I (by decide), ar.I (by decide)]; exact k f hf) (fun k j hj => by rw [ar.I (by decide), ar.I (by decide)]; exact k j hj)
/-- both called, one answer, and all stays alike -/
def Pr (mi : Nat) (L : am_L) (mj : Nat) (K : am_L) (m : am_M) : Prop := am_WP YL mi 0 0 0 L [] m (fun r m1 => am_WP YL mj 0 0 0 K [] m1 (fun r2 m2 => r2 = r ∧ (∃ v, r = some (.int v)) ∧ Inv m2))
theorem P_hidden {m : am_M} (hI : Inv m) (t r c : Int) (hbt : -2147483648 ≤ t ∧ t ≤ 2147483647) (hbr : -2147483648 ≤ r ∧ r ≤ 2147483647) (hbc : -2147483648 ≤ c ∧ c ≤ 2147483647) : Pr 118 [some (.ref 3), some (.int (iI t)), some (.int (iI r)), some (.int (iI c)), none] 172 [some (.ref 109), some (.int (iI t)), some (.int (iI r)), some (.int (iI c))] m := by
  obtain ⟨n, E, C, tp, sz, lt, i1, i2, i3, i4, i5, i6, i7, i8, i9⟩ := id hI
  refine (S_cseen m _ i1.1 n i3.1.1 t r c hbt hbr hbc).1 (S_mhidden m _ i1.2.1 n i3.2.1 t r c hbt hbr hbc (fun m1 f1 => ⟨?_, ⟨_, rfl⟩, hI.scr (Fm.L f1 (by decide))⟩))
  rw [i3.hid i1]
theorem P_see {m : am_M} (hI : Inv m) (t r c : Int) (hbt : -2147483648 ≤ t ∧ t ≤ 2147483647) (hbr : -2147483648 ≤ r ∧ r ≤ 2147483647) (hbc : -2147483648 ≤ c ∧ c ≤ 2147483647) : Pr 117 [some (.ref 3), some (.int (iI t)), some (.int (iI r)), some (.int (iI c)), none] 171 [some (.ref 109), some (.int (iI t)), some (.int (iI r)), some (.int (iI c))] m := by
  obtain ⟨n, E, C, tp, sz, lt, i1, i2, i3, i4, i5, i6, i7, i8, i9⟩ := id hI
  refine (S_cseen m _ i1.1 n i3.1.1 t r c hbt hbr hbc).2 (S_msee m _ i1.2.1 n i3.2.1 t r c hbt hbr hbc (fun m1 f1 => ⟨?_, ⟨_, rfl⟩, hI.scr (Fm.L f1 (by decide))⟩))
  rw [i3.hid i1]
theorem P_squares {m : am_M} (hI : Inv m) (i k : Int) (hbi : -2147483648 ≤ i ∧ i ≤ 2147483647) (hbk : -2147483648 ≤ k ∧ k ≤ 2147483647) : Pr 124 [some (.ref 3), some (.int (iI i)), some (.int (iI k)), none] 189 [some (.ref 109), some (.int (iI i)), some (.int (iI k))] m := by
  obtain ⟨n, E, C, tp, sz, lt, i1, i2, i3, i4, i5, i6, i7, i8, i9⟩ := id hI
  refine S_csquares m _ i4.bk i k hbi hbk (S_msquares m _ i k hbi hbk ⟨congrArg (fun x => some (Value.int x)) (A_squares i4 i k).symm, ⟨_, rfl⟩, hI⟩)
theorem mpt_fe {m m1 : am_M} (e1 : m1.1 115 = m.1 115) (e2 : m1.2.1 116 = m.2.1 116) (f : Int32) (k q : Nat) : mpt m1 f k q = mpt m f k q := by
  have ej : mjn m1 f = mjn m f := by
    funext k
    unfold mjn msi
    rw [e1]
  have ea : ∀ k, mal m1 f k q = mal m f k q := by
    intro k
    induction k with
    | zero => rfl
    | succ k ih =>
      show (mal m1 f k q && (!mjn m1 f k || wb (mv m1 116 k) q)) = (mal m f k q && (!mjn m f k || wb (mv m 116 k) q))
      rw [ih, ej]
      unfold mv
      rw [e2]
  unfold mpt
  rw [ej, ea]
theorem mfir_fe {m m1 : am_M} (e1 : m1.1 115 = m.1 115) (e2 : m1.2.1 116 = m.2.1 116) (f w : Int) : mfir m1 f w = mfir m f w := by
  have ej : mjn m1 (iI f) = mjn m (iI f) := by
    funext k
    unfold mjn msi
    rw [e1]
  have ep : mpt m1 (iI f) 60 = mpt m (iI f) 60 := funext fun q => mpt_fe e1 e2 _ _ _
  unfold mfir mfo
  rw [e1, ej, ep]
theorem P_fire {m : am_M} (hI : Inv m) (f w : Int) (hbf : -2147483648 ≤ f ∧ f ≤ 2147483647) (hbw : -2147483648 ≤ w ∧ w ≤ 2147483647) : Pr 130 [some (.ref 3), some (.int (iI f)), some (.int (iI w))] 201 [some (.ref 109), some (.int (iI f)), some (.int (iI w)), none] m := by
  obtain ⟨n, E, C, tp, sz, lt, i1, i2, i3, i4, i5, i6, i7, i8, i9⟩ := id hI
  refine S_cfire m _ f w hbf hbw (fun m1 f1 => ?_)
  have ar : Ar [45, 46] m m1 := Ar.ag f1 (fun _ z => z)
  have hI1 : Inv m1 := hI.fr ar (by decide) (by decide) (fun f hf z => by simp only [List.mem_cons, List.not_mem_nil, or_false] at z; omega) (fun t ht z => by simp only [List.mem_cons, List.not_mem_nil, or_false] at z; omega) (by rw [ar.I (by decide)]) (by rw [ar.I (by decide)]) (by rw [ar.I (by decide)]) (fun k f hf => by rw [ar.I (by decide), ar.I (by decide)]; exact k f hf) (fun k j hj => by rw [ar.I (by decide), ar.I (by decide)]; exact k j hj)
  have r1 : RN m1 E C := i4.fr ar i8 (by decide) (by decide) (fun f hf z => by simp only [List.mem_cons, List.not_mem_nil, or_false] at z; omega)
  have ec : mfir m1 f w = mfir m f w := mfir_fe (ar.I (by decide)) (ar.J (by decide)) f w
  refine S_mfire m1 _ E r1.1.ever.1 r1.1.ever.2 f w hbf hbw (fun m2 f2 => ⟨?_, ⟨_, rfl⟩, hI1.scr (f2.sub (by decide) (by decide))⟩)
  rw [ec, A_fire i4]
