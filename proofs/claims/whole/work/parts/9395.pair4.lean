/-! ===== blinds, blind, best ===== -/
theorem Inv.ft {m m1 : am_M} (h : Ft m m1) (hI : Inv m) (hT : ∀ n, Tw m n → TI m1 n) : Inv m1 := by
  have ar : Ar [9, 12, 17, 19, 21, 23, 25, 27, 29, 31, 33] m m1 := Ar.ag h.1 (fun _ z => z)
  refine hI.fg ar (by decide) (by decide) (fun f hf z => by simp only [List.mem_cons, List.not_mem_nil, or_false] at z; omega) (fun n t => ⟨hT n t, ?_, fun x hx => ?_⟩) (fun w => w.fe (ar.I (by decide)) (ar.I (by decide)) (ar.J (by decide)) (ar.I (by decide)) (ar.I (by decide)) (ar.I (by decide))) (by rw [ar.I (by decide)]) (by rw [ar.I (by decide)]) (fun k f hf => by rw [ar.I (by decide), ar.I (by decide)]; exact k f hf) (fun k j hj => by rw [ar.I (by decide), ar.I (by decide)]; exact k j hj)
  · have := t.2.1
    unfold mtw at this ⊢
    rw [ar.I (a := 109) (by decide), ar.I (a := 113) (by decide), ar.I (a := 114) (by decide)]
    exact this
  · rw [ar.I (a := 10) (by decide), ar.I (a := 11) (by decide), ar.I (a := 113) (by decide), ar.I (a := 114) (by decide)]
    exact t.2.2 x hx
theorem Tw_n {m : am_M} {n k : Nat} (h : Tw m n) (g : Tw m k) : n = k := by
  have a := h.1.1.2.1
  have b := g.1.1.2.1
  rw [a] at b
  have x := h.1.1.1
  have y := g.1.1.1
  have := (iI_eq (by omega) (by omega) (by omega) (by omega)).mp b
  omega
theorem mbl_fe {m m1 : am_M} (e110 : m1.1 110 = m.1 110) (e111 : m1.1 111 = m.1 111) (e113 : m1.1 113 = m.1 113) (e114 : m1.1 114 = m.1 114) : ∀ n q, mbl m1 n q = mbl m n q
  | 0, q => by show mt m1 q = mt m q; unfold mt mth; rw [e110]
  | n + 1, q => by
    show (mbl m1 n q && !mse m1 n q) = (mbl m n q && !mse m n q)
    rw [mbl_fe e110 e111 e113 e114 n q]
    unfold mse mbs mab mf mth
    rw [e110, e111, e113, e114]
theorem P_blinds {m : am_M} (hI : Inv m) : Pr 141 [some (.ref 3)] 221 [some (.ref 109)] m := by
  obtain ⟨n, E, C, tp, sz, lt, i1, i2, i3, i4, i5, i6, i7, i8, i9⟩ := id hI
  refine S_cblinds m _ n i3.1 i1.1 (fun m1 f1 t1 => ?_)
  have hI1 : Inv m1 := hI.ft f1 (fun k t => by rw [← Tw_n i3 t]; exact t1)
  obtain ⟨n', _, _, _, _, _, j1, _, j3, _⟩ := id hI1
  have e : n' = n := by
    have a := j3.1.1.2.1
    have b := t1.1.2.1
    rw [b] at a
    have x := j3.1.1.1
    have y := t1.1.1
    have := (iI_eq (by omega) (by omega) (by omega) (by omega)).mp a
    omega
  subst e
  have ar : Ar [9, 12, 17, 19, 21, 23, 25, 27, 29, 31, 33] m m1 := Ar.ag f1.1 (fun _ z => z)
  have eb := mbl_fe (ar.I (a := 110) (by decide)) (ar.I (a := 111) (by decide)) (ar.I (a := 113) (by decide)) (ar.I (a := 114) (by decide))
  refine S_mblinds m1 _ n' j3.2.1 j1.2.1.h (fun m2 f2 _ => ⟨?_, ⟨_, rfl⟩, hI1.scr (f2.sub (by decide) (by decide))⟩)
  rw [fb_ct_cong (q := cbl m n') (fun q hq => by rw [eb, i3.bl i1 hq n' (Nat.le_refl _)])]
/-- behind a look at the towers' caches -/
theorem Inv.after {m m1 : am_M} {n : Nat} (hI : Inv m) (i3 : Tw m n) (f1 : Ft m m1) (t1 : TI m1 n) : Inv m1 ∧ Wd m1 ∧ mtw m1 n ∧ (∀ k q, mbl m1 k q = mbl m k q) ∧ mbest m1 n = mbest m n := by
  have hI1 : Inv m1 := hI.ft f1 (fun k t => by rw [← Tw_n i3 t]; exact t1)
  obtain ⟨n', _, _, _, _, _, j1, _, j3, _⟩ := id hI1
  have e : n' = n := by
    have a := j3.1.1.2.1
    have b := t1.1.2.1
    rw [b] at a
    have x := j3.1.1.1
    have y := t1.1.1
    have := (iI_eq (by omega) (by omega) (by omega) (by omega)).mp a
    omega
  subst e
  have ar : Ar [9, 12, 17, 19, 21, 23, 25, 27, 29, 31, 33] m m1 := Ar.ag f1.1 (fun _ z => z)
  have e110 := ar.I (a := 110) (by decide)
  have e111 := ar.I (a := 111) (by decide)
  have eb := mbl_fe e110 e111 (ar.I (a := 113) (by decide)) (ar.I (a := 114) (by decide))
  refine ⟨hI1, j1, j3.2.1, eb, ?_⟩
  unfold mbest
  rw [show mbl m1 n' = mbl m n' from funext fun q => eb n' q, show mt m1 = mt m from funext fun q => by unfold mt mth; rw [e110], show mnew m1 n' = mnew m n' from funext fun q => by
    unfold mnew
    exact fb_ct_cong (fun k _ => by rw [eb]; unfold mf mth; rw [e110, e111])]
theorem P_blind {m : am_M} (hI : Inv m) (k : Int) (hbk : -2147483648 ≤ k ∧ k ≤ 2147483647) : Pr 142 [some (.ref 3), some (.int (iI k))] 222 [some (.ref 109), some (.int (iI k))] m := by
  obtain ⟨n, E, C, tp, sz, lt, i1, i2, i3, i4, i5, i6, i7, i8, i9⟩ := id hI
  refine S_cblind m _ n i3.1 i1.1 k hbk (fun m1 f1 t1 => ?_)
  obtain ⟨hI1, j1, j3, eb, _⟩ := hI.after i3 f1 t1
  refine S_mblind m1 _ n j3 j1.2.1.h k hbk (fun m2 f2 => ⟨?_, ⟨_, rfl⟩, hI1.scr (f2.sub (by decide) (by decide))⟩)
  rw [kth_cong (r := cbl m n) (fun q hq => by rw [eb, i3.bl i1 hq n (Nat.le_refl _)])]
theorem P_best {m : am_M} (hI : Inv m) : Pr 143 [some (.ref 3)] 223 [some (.ref 109), none, none, none, none, none] m := by
  obtain ⟨n, E, C, tp, sz, lt, i1, i2, i3, i4, i5, i6, i7, i8, i9⟩ := id hI
  refine S_cbest m _ n i3.1 i1.1 (fun m1 f1 t1 => ?_)
  obtain ⟨hI1, j1, j3, eb, em⟩ := hI.after i3 f1 t1
  refine S_mbest m1 _ n j3 j1.2.1.h (fun m2 f2 => ⟨?_, ⟨_, rfl⟩, hI1.scr (f2.sub (by decide) (by decide))⟩)
  rw [em, A_best i1 i3]
