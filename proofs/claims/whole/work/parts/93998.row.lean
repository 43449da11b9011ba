/-! ===== row, square, tower: one answer ===== -/
theorem A_pl {m : am_M} {E C : Nat} (h : RN m E C) : mpl m = fb_ct (fun i => (am_gR YL m 35 i).isSome) 60 := by
  unfold mpl
  refine fb_ct_cong (fun i hi => ?_)
  have p := h.1.places i hi
  cases hr : am_gR YL m 35 i with
  | none =>
    rw [hr] at p
    have p : m.1 115 i = 6 := p
    rw [decide_eq_true p]
    rfl
  | some e =>
    rw [hr] at p
    obtain ⟨_, p1, p2, p3, _⟩ := p
    rw [p1, decide_eq_false (fun z => by rw [z] at p3; exact absurd p3 (by decide))]
    rfl
theorem P_row {m : am_M} (hI : Inv m) (r n h mi : Int) (hbr : -2147483648 ≤ r ∧ r ≤ 2147483647) (hbn : -2147483648 ≤ n ∧ n ≤ 2147483647) (hbh : -2147483648 ≤ h ∧ h ≤ 2147483647) (hbmi : -2147483648 ≤ mi ∧ mi ≤ 2147483647) : Pr 114 [some (.ref 3), some (.int (iI r)), some (.int (iI n)), some (.int (iI h)), some (.int (iI mi))] 165 [some (.ref 109), some (.int (iI r)), some (.int (iI n)), some (.int (iI h)), some (.int (iI mi)), none] m := by
  obtain ⟨n0, E, C, tp, sz, lt, i1, i2, i3, i4, i5, i6, i7, i8, i9⟩ := id hI
  obtain ⟨t1, t2, t3, t4, t5, t6, t7, _⟩ := i9
  refine S_crow m _ r n h mi hbr hbn hbh hbmi (fun z => ?_) (fun z m1 ar tk t4' a5 a6 a8 => ?_)
  · exact S_mrow m _ r n h mi hbr hbn hbh hbmi (fun _ => ⟨rfl, ⟨_, rfl⟩, hI⟩) (fun w => by rw [z] at w; cases w)
  · refine S_mrow m1 _ r n h mi hbr hbn hbh hbmi (fun w => by rw [z] at w; cases w) (fun _ m2 f2 aw b110 b111 b112 => ⟨rfl, ⟨_, rfl⟩, ?_⟩)
    unfold rok inR at z
    simp only [Bool.and_eq_true, Bool.or_eq_true, decide_eq_true_eq] at z
    have F : ∀ a, a ∉ [110, 111, 112, 115, 126, 132] → a ≠ 109 → m2.1 a = m1.1 a := f2.1
    have G : ∀ a, a ∉ [110, 111, 112, 115, 126, 132] → m2.2.1 a = m1.2.1 a := f2.2.1
    obtain ⟨k1, k2, k3, k4, k5, k6, k7, k8, k9, k10, k11, k12, k13⟩ := tk
    obtain ⟨w1, w2, w3, w4, w5⟩ := aw
    have e110 : m1.1 110 = m.1 110 := ar.I (by decide)
    have e111 : m1.1 111 = m.1 111 := ar.I (by decide)
    have e112 : m1.1 112 = m.1 112 := ar.I (by decide)
    have c5 : ∀ q, q < 256 → m2.1 5 q = if q / 16 = r.toNat ∧ q % 16 < n.toNat then iI h else m.1 5 q := fun q hq => by rw [F 5 (by decide) (by decide)]; exact a5 q hq
    have c6 : ∀ q, q < 256 → m2.1 6 q = if q / 16 = r.toNat ∧ q % 16 < n.toNat then iI mi else m.1 6 q := fun q hq => by rw [F 6 (by decide) (by decide)]; exact a6 q hq
    have c8 : ∀ q, q < 256 → wb (m2.2.1 8) q = if q / 16 = r.toNat then decide (q % 16 < n.toNat) else wb (m.2.1 8) q := fun q hq => by rw [G 8 (by decide)]; exact a8 q hq
    have ct : ∀ q, q < 256 → mt m2 q = if q / 16 = r.toNat then decide (q % 16 < n.toNat) else mt m q := fun q hq => by
      unfold mt mth
      rw [Int.toNat_natCast, b110, e110]
      by_cases c : q / 16 = r.toNat
      · rw [if_pos c, if_pos c, iI_to (by omega) (by omega)]
        exact decide_eq_decide.mpr ⟨fun y => by omega, fun y => by omega⟩
      · rw [if_neg c, if_neg c]
    have ob := i1.1
    have mb := i1.2.1
    have hWd : Wd m2 := by
      refine ⟨⟨fun q hq => ?_, fun q hq => ?_, fun q hq y => ?_⟩, ⟨fun q hq => ?_, fun q hq => ?_, fun q hq y => ?_, fun j hj => ?_⟩, fun q hq => ?_, fun q hq => ?_, fun q hq => ?_⟩
      · rw [c5 q hq]
        by_cases c : q / 16 = r.toNat ∧ q % 16 < n.toNat
        · rw [if_pos c, iI_to (by omega) (by omega)]
          omega
        · rw [if_neg c]
          exact ob.1 q hq
      · rw [c6 q hq]
        by_cases c : q / 16 = r.toNat ∧ q % 16 < n.toNat
        · rw [if_pos c, iI_to (by omega) (by omega)]
          omega
        · rw [if_neg c]
          exact ob.2.1 q hq
      · rw [c8 q hq] at y
        rw [c6 q hq]
        by_cases c : q / 16 = r.toNat
        · rw [if_pos c] at y
          have y := of_decide_eq_true y
          rw [if_pos ⟨c, y⟩, iI_to (by omega) (by omega)]
          omega
        · rw [if_neg c] at y
          rw [if_neg (fun w => c w.1)]
          exact ob.2.2 q hq y
      · rw [b111 q hq, e111]
        by_cases c : q / 16 = r.toNat ∧ q % 16 < n.toNat
        · rw [if_pos c, iI_to (by omega) (by omega)]
          omega
        · rw [if_neg c]
          exact mb.1 q hq
      · rw [b112 q hq, e112]
        by_cases c : q / 16 = r.toNat ∧ q % 16 < n.toNat
        · rw [if_pos c, iI_to (by omega) (by omega)]
          omega
        · rw [if_neg c]
          exact mb.2.1 q hq
      · rw [ct q hq] at y
        rw [b112 q hq, e112]
        by_cases c : q / 16 = r.toNat
        · rw [if_pos c] at y
          have y := of_decide_eq_true y
          rw [if_pos ⟨c, y⟩, iI_to (by omega) (by omega)]
          omega
        · rw [if_neg c] at y
          rw [if_neg (fun w => c w.1)]
          exact mb.2.2.1 q hq y
      · rw [b110, e110]
        by_cases c : j = r.toNat
        · rw [if_pos c, iI_to (by omega) (by omega)]
          omega
        · rw [if_neg c]
          exact mb.2.2.2 j hj
      · rw [c8 q hq, ct q hq, i1.2.2.1 q hq]
      · rw [c5 q hq, b111 q hq, e111, i1.2.2.2.1 q hq]
      · rw [c6 q hq, b112 q hq, e112, i1.2.2.2.2 q hq]
    have n35 : ∀ i, i < 60 → am_gR YL m2 35 i = none := fun i hi => by rw [f2.R]; exact k6 i hi
    have f9 : m2.1 9 = m1.1 9 := F 9 (by decide) (by decide)
    refine ⟨0, 0, 0, tp, 0, lt, hWd, ?_, ⟨⟨⟨by omega, by rw [f9]; exact k1, fun t ht => absurd ht (Nat.not_lt_zero t)⟩, fun t ht => absurd ht (Nat.not_lt_zero t), fun y => absurd (by rw [f9]; exact k2) y, fun y => absurd (by rw [f9]; exact k3) y⟩, ⟨by omega, w1, fun t ht => absurd ht (Nat.not_lt_zero t)⟩, fun t ht => absurd ht (Nat.not_lt_zero t)⟩, ⟨⟨fun i hi => ?_, fun i hi => ?_, fun i hi => ?_, ⟨by omega, ?_⟩, fun f hf => absurd hf (Nat.not_lt_zero f), fun f hf => absurd hf (Nat.not_lt_zero f), ⟨by omega, ?_⟩, fun f hf => absurd hf (Nat.not_lt_zero f), fun f hf => absurd hf (Nat.not_lt_zero f)⟩, ?_, ?_, ?_, fun f hf => absurd hf (Nat.not_lt_zero f), fun f hf => absurd hf (Nat.not_lt_zero f)⟩, ⟨fun q hq => ?_, fun g hg y => ?_⟩, fun f hf => ?_, fun i hi => ?_, ?_, ⟨t1, by omega, t3, ?_, ?_, w2, ?_, fun j hj => absurd hj (Nat.not_lt_zero j)⟩⟩
    · unfold LK at i2 ⊢
      rw [F 0 (by decide) (by decide), F 1 (by decide) (by decide), ar.I (a := 0) (by decide), ar.I (a := 1) (by decide)]
      exact i2
    · show PlOK m2 (am_gR YL m2 35 i) (m2.1 115) (m2.2.1 116) i
      rw [n35 i hi]
      show m2.1 115 i = 6
      rw [w3 i (by omega), if_pos hi]
    · rw [w3 _ (by omega), if_neg (by omega), if_pos (by omega), F 36 (by decide) (by decide), k7 i hi]
    · rw [F 36 (by decide) (by decide)]
      exact Or.inl (k7 i hi)
    · rw [w3 _ (by omega), if_neg (by omega), if_neg (by omega)]
      rfl
    · rw [w3 _ (by omega), if_neg (by omega), if_neg (by omega)]
      rfl
    · rw [F 38 (by decide) (by decide)]
      exact k9
    · rw [F 91 (by decide) (by decide)]
      exact k10
    · rw [F 34 (by decide) (by decide), k5, fb_ct_zero.mpr (fun i hi => by rw [n35 i hi]; rfl)]
      rfl
    · rw [F 90 (by decide) (by decide), ar.I (a := 90) (by decide)]
      exact i5.1 q hq
    · rw [F 87 (by decide) (by decide), k13] at y
      have := (iI_eq (a := -1) (b := (g : Int)) (by omega) (by omega) (by omega) (by omega)).mp (show iI (-1) = iI (g : Int) from y)
      omega
    · rw [F 93 (by decide) (by decide), k11 f hf, w5 f hf]
    · rw [F 37 (by decide) (by decide), k8 i hi, w4 i hi]
    · rw [show am_n m2 = am_n m1 by unfold am_n; rw [f2.2.2.2], ar.n]
      exact i8
    · rw [F 97 (by decide) (by decide), t4']
      exact t4
    · rw [F 97 (by decide) (by decide)]
      exact k12
    · rw [f2.2.2.1 14 (by decide), ar.I (a := 109) (by decide)]
      exact t7
theorem P_square {m : am_M} (hI : Inv m) (r c h mi : Int) (hbr : -2147483648 ≤ r ∧ r ≤ 2147483647) (hbc : -2147483648 ≤ c ∧ c ≤ 2147483647) (hbh : -2147483648 ≤ h ∧ h ≤ 2147483647) (hbmi : -2147483648 ≤ mi ∧ mi ≤ 2147483647) : Pr 115 [some (.ref 3), some (.int (iI r)), some (.int (iI c)), some (.int (iI h)), some (.int (iI mi)), none] 166 [some (.ref 109), some (.int (iI r)), some (.int (iI c)), some (.int (iI h)), some (.int (iI mi))] m := by
  obtain ⟨n, E, C, tp, sz, lt, i1, i2, i3, i4, i5, i6, i7, i8, i9⟩ := id hI
  have hE := i4.1.ever
  have hC := i4.1.crews
  have gd : cqok m r c h mi = mqok m r c h mi := by
    have pb := mpl_b m
    unfold cqok mqok told
    rw [i1.th, i4.2.1, i4.2.2.1, hE.2, hC.2, i4.2.2.2.1, ← A_pl i4, iI_to (by omega) (by omega), iI_to (by omega) (by omega), iI_to (by omega) (by omega), show decide (((mpl m : Nat) : Int) ≤ 0) = decide (mpl m = 0) from decide_eq_decide.mpr (by omega), Bool.and_assoc]
  refine S_csquare m _ r c h mi hbr hbc hbh hbmi (fun z => ?_) (fun z m1 f1 a5 a6 a9 a7 a8 a12 a87 => ?_)
  · rw [gd] at z
    exact S_msquare m _ i1.2.1.2.2.2 r c h mi hbr hbc hbh hbmi (fun _ => ⟨rfl, ⟨_, rfl⟩, hI⟩) (fun w => by rw [z] at w; cases w)
  · rw [gd] at z
    have ar1 : Ar [5, 6, 9, 12, 87] m m1 := Ar.ag f1 (fun _ z => z)
    have e110 : m1.1 110 = m.1 110 := ar1.I (by decide)
    have e115 : m1.1 115 = m.1 115 := ar1.I (by decide)
    have L1 : ML m1 := by
      unfold ML
      rw [e110]
      exact i1.2.1.2.2.2
    have em : mqok m1 r c h mi = mqok m r c h mi := by
      unfold mqok mpl mth
      rw [e110, e115]
    refine S_msquare m1 _ L1 r c h mi hbr hbc hbh hbmi (fun w => by rw [em, z] at w; cases w) (fun _ => ⟨rfl, ⟨_, rfl⟩, ?_⟩)
    have zz := z
    unfold mqok inR at zz
    simp only [Bool.and_eq_true, decide_eq_true_eq] at zz
    have hb := mth_b i1.2.1.2.2.2 zz.1
    obtain ⟨x, hx⟩ : ∃ x : Nat, 16 * r + c = (x : Int) := ⟨(16 * r + c).toNat, by omega⟩
    rw [hx, Int.toNat_natCast] at a5 a6 ⊢
    have ar : Ar [5, 6, 9, 12, 87, 111, 112] m (am_pI (am_pI m1 111 x (iI h)) 112 x (iI mi)) := (((ar1.sub (by decide)).pI (by decide) _ _).pI (by decide) _ _)
    generalize hm2 : am_pI (am_pI m1 111 x (iI h)) 112 x (iI mi) = m2 at ar ⊢
    have b5 : ∀ q, m2.1 5 q = if q = x then iI h else m.1 5 q := fun q => by rw [← hm2, am_pI_ne (by decide), am_pI_ne (by decide)]; exact a5 q
    have b6 : ∀ q, m2.1 6 q = if q = x then iI mi else m.1 6 q := fun q => by rw [← hm2, am_pI_ne (by decide), am_pI_ne (by decide)]; exact a6 q
    have b111 : ∀ q, m2.1 111 q = if q = x then iI h else m.1 111 q := fun q => by rw [← hm2, am_pI_ne (by decide), am_pI_at, ar1.I (by decide)]
    have b112 : ∀ q, m2.1 112 q = if q = x then iI mi else m.1 112 q := fun q => by rw [← hm2, am_pI_at, am_pI_ne (by decide), ar1.I (by decide)]
    have b9 : m2.1 9 = m1.1 9 := by rw [← hm2, am_pI_ne (by decide), am_pI_ne (by decide)]
    have b12 : m2.1 12 = m1.1 12 := by rw [← hm2, am_pI_ne (by decide), am_pI_ne (by decide)]
    have b87 : m2.1 87 = m1.1 87 := by rw [← hm2, am_pI_ne (by decide), am_pI_ne (by decide)]
    have e8 : m2.2.1 8 = m.2.1 8 := ar.J (by decide)
    have et : ∀ q, mt m2 q = mt m q := fun q => by unfold mt mth; rw [ar.I (by decide)]
    have hWd : Wd m2 := by
      obtain ⟨ob, mb, o3, o4, o5⟩ := i1
      refine ⟨⟨fun q hq => ?_, fun q hq => ?_, fun q hq y => ?_⟩, ⟨fun q hq => ?_, fun q hq => ?_, fun q hq y => ?_, ?_⟩, fun q hq => ?_, fun q hq => ?_, fun q hq => ?_⟩
      · rw [b5]
        by_cases c : q = x
        · rw [if_pos c, iI_to (by omega) (by omega)]
          omega
        · rw [if_neg c]
          exact ob.1 q hq
      · rw [b6]
        by_cases c : q = x
        · rw [if_pos c, iI_to (by omega) (by omega)]
          omega
        · rw [if_neg c]
          exact ob.2.1 q hq
      · rw [b6]
        by_cases c : q = x
        · rw [if_pos c, iI_to (by omega) (by omega)]
          omega
        · rw [if_neg c]
          exact ob.2.2 q hq (by rw [← e8]; exact y)
      · rw [b111]
        by_cases c : q = x
        · rw [if_pos c, iI_to (by omega) (by omega)]
          omega
        · rw [if_neg c]
          exact mb.1 q hq
      · rw [b112]
        by_cases c : q = x
        · rw [if_pos c, iI_to (by omega) (by omega)]
          omega
        · rw [if_neg c]
          exact mb.2.1 q hq
      · rw [b112]
        by_cases c : q = x
        · rw [if_pos c, iI_to (by omega) (by omega)]
          omega
        · rw [if_neg c]
          exact mb.2.2.1 q hq (by rw [← et]; exact y)
      · unfold ML
        rw [ar.I (by decide)]
        exact mb.2.2.2
      · rw [e8, et, o3 q hq]
      · rw [b5, b111, o4 q hq]
      · rw [b6, b112, o5 q hq]
    have hT : Tw m2 n := by
      refine ⟨⟨?_, fun t ht y => absurd (by rw [b12]; exact a12 t (by have := i3.1.1.1; omega)) y, fun y => absurd (by rw [b9]; exact a7) y, fun y => absurd (by rw [b9]; exact a8) y⟩, ?_, fun t ht => ?_⟩
      · have := i3.1.1
        unfold tw_ok at this ⊢
        rw [b9, a9 9 (by decide) (by decide), ar.I (a := 10) (by decide), ar.I (a := 11) (by decide)]
        exact this
      · have := i3.2.1
        unfold mtw at this ⊢
        rw [ar.I (a := 109) (by decide), ar.I (a := 113) (by decide), ar.I (a := 114) (by decide)]
        exact this
      · rw [ar.I (a := 10) (by decide), ar.I (a := 11) (by decide), ar.I (a := 113) (by decide), ar.I (a := 114) (by decide)]
        exact i3.2.2 t ht
    refine ⟨n, E, C, tp, sz, lt, hWd, ?_, hT, i4.fr ar i8 (by decide) (by decide) (fun f hf z => by simp only [List.mem_cons, List.not_mem_nil, or_false] at z; omega), ⟨fun q hq => ?_, fun g hg y => ?_⟩, ?_, ?_, by rw [ar.n]; exact i8, ?_⟩
    · unfold LK at i2 ⊢
      rw [ar.I (a := 0) (by decide), ar.I (a := 1) (by decide)]
      exact i2
    · rw [ar.I (a := 90) (by decide)]
      exact i5.1 q hq
    · rw [b87, a87] at y
      have := (iI_eq (a := -1) (b := (g : Int)) (by omega) (by omega) (by omega) (by omega)).mp (show iI (-1) = iI (g : Int) from y)
      omega
    · rw [ar.I (a := 93) (by decide), ar.I (a := 126) (by decide)]
      exact i6
    · rw [ar.I (a := 37) (by decide), ar.I (a := 132) (by decide)]
      exact i7
    · rw [core_fr ar (by decide)]
      exact i9.fr i8 (ar.I (by decide)) (ar.I (by decide)) (ar.I (by decide)) (ar.I (by decide)) (fun j => ar.R (by decide) j) (ar.I (by decide)) (ar.J (by decide)) (by rw [ar.I (by decide)]) (by rw [ar.I (by decide)]) (Gr.ar ar) (by decide) (by decide)
theorem P_tower {m : am_M} (hI : Inv m) (r c h : Int) (hbr : -2147483648 ≤ r ∧ r ≤ 2147483647) (hbc : -2147483648 ≤ c ∧ c ≤ 2147483647) (hbh : -2147483648 ≤ h ∧ h ≤ 2147483647) : Pr 116 [some (.ref 3), some (.int (iI r)), some (.int (iI c)), some (.int (iI h)), none] 167 [some (.ref 109), some (.int (iI r)), some (.int (iI c)), some (.int (iI h))] m := by
  obtain ⟨n, E, C, tp, sz, lt, i1, i2, i3, i4, i5, i6, i7, i8, i9⟩ := id hI
  have n8 := i3.1.1.1
  have gd : ctok m r c h n = mtok m r c h n := by
    have pb := mpl_b m
    unfold ctok mtok
    rw [i1.th, i4.2.2.2.1, ← A_pl i4, iI_to (by omega) (by omega), show decide (((mpl m : Nat) : Int) ≤ 0) = decide (mpl m = 0) from decide_eq_decide.mpr (by omega)]
  refine S_ctower m _ n n8 i3.1.1.2.1 r c h hbr hbc hbh (fun z => ?_) (fun z m1 f1 a9 a7 a8 a10 a11 a12 => ?_)
  · rw [gd] at z
    exact S_mtower m _ i1.2.1.2.2.2 n n8 i3.2.1.2.1 r c h hbr hbc hbh (fun _ => ⟨rfl, ⟨_, rfl⟩, hI⟩) (fun w => by rw [z] at w; cases w)
  · rw [gd] at z
    have ar1 : Ar [9, 10, 11, 12] m m1 := Ar.ag f1 (fun _ z => z)
    have e110 : m1.1 110 = m.1 110 := ar1.I (by decide)
    have e115 : m1.1 115 = m.1 115 := ar1.I (by decide)
    have e109 : m1.1 109 = m.1 109 := ar1.I (by decide)
    have L1 : ML m1 := by
      unfold ML
      rw [e110]
      exact i1.2.1.2.2.2
    have em : mtok m1 r c h n = mtok m r c h n := by
      unfold mtok mpl mth
      rw [e110, e115]
    refine S_mtower m1 _ L1 n n8 (by rw [e109]; exact i3.2.1.2.1) r c h hbr hbc hbh (fun w => by rw [em, z] at w; cases w) (fun _ m2 f2 b5 b113 b114 => ⟨rfl, ⟨_, rfl⟩, ?_⟩)
    unfold mtok inR at z
    simp only [Bool.and_eq_true, Bool.not_eq_true', decide_eq_true_eq, decide_eq_false_iff_not] at z
    have hb := mth_b i1.2.1.2.2.2 z.1
    have ar : Ar [9, 10, 11, 12, 109, 113, 114] m m2 := (ar1.sub (by decide)).tr (Ar.fm f2 (by decide) (by decide))
    have F : ∀ a, a ∉ [113, 114] → a ≠ 109 → m2.1 a = m1.1 a := f2.1
    have c10 : ∀ t, m2.1 10 t = if t = n then iI (16 * r + c) else m.1 10 t := fun t => by rw [F 10 (by decide) (by decide)]; exact a10 t
    have c11 : ∀ t, m2.1 11 t = if t = n then iI h else m.1 11 t := fun t => by rw [F 11 (by decide) (by decide)]; exact a11 t
    have c12 : ∀ t, m2.1 12 t = if t = n then 0 else m.1 12 t := fun t => by rw [F 12 (by decide) (by decide)]; exact a12 t
    have c113 : ∀ t, m2.1 113 t = if t = n then iI (16 * r + c) else m.1 113 t := fun t => by rw [b113, ar1.I (a := 113) (by decide)]
    have c114 : ∀ t, m2.1 114 t = if t = n then iI h else m.1 114 t := fun t => by rw [b114, ar1.I (a := 114) (by decide)]
    have hT : Tw m2 (n + 1) := by
      refine ⟨⟨⟨by omega, by rw [F 9 (by decide) (by decide)]; exact a9, fun t ht => ?_⟩, fun t ht y q hq => ?_, fun y => absurd (by rw [F 9 (by decide) (by decide)]; exact a7) y, fun y => absurd (by rw [F 9 (by decide) (by decide)]; exact a8) y⟩, ⟨by omega, b5, fun t ht => ?_⟩, fun t ht => ?_⟩
      · rw [c10, c11]
        by_cases e : t = n
        · rw [if_pos e, if_pos e, iI_to (by omega) (by omega), iI_to (by omega) (by omega)]
          omega
        · rw [if_neg e, if_neg e]
          exact i3.1.1.2.2 t (by omega)
      · have e : ¬ t = n := fun e => y (by rw [c12, if_pos e])
        rw [c12, if_neg e] at y
        have et : tsee m2 t q = tsee m t q := by
          unfold tsee bse abv
          rw [csee_fr (ar.J (by decide)) (ar.I (by decide)), c10, c11, if_neg e, if_neg e]
        rw [ar.J (fun z => by simp only [List.mem_cons, List.not_mem_nil, or_false] at z; omega), et]
        exact i3.1.2.1 t (by omega) y q hq
      · rw [c113, c114]
        by_cases e : t = n
        · rw [if_pos e, if_pos e, iI_to (by omega) (by omega), iI_to (by omega) (by omega)]
          omega
        · rw [if_neg e, if_neg e]
          exact i3.2.1.2.2 t (by omega)
      · rw [c10, c11, c113, c114]
        by_cases e : t = n
        · rw [if_pos e, if_pos e, if_pos e, if_pos e]
          exact ⟨rfl, rfl⟩
        · rw [if_neg e, if_neg e, if_neg e, if_neg e]
          exact i3.2.2 t (by omega)
    refine ⟨n + 1, E, C, tp, sz, lt, i1.fr ar (by decide), ?_, hT, i4.fr ar i8 (by decide) (by decide) (fun f hf z => by simp only [List.mem_cons, List.not_mem_nil, or_false] at z; omega), i5.fe (ar.I (by decide)) (ar.I (by decide)) (ar.J (by decide)) (ar.I (by decide)) (ar.I (by decide)) (ar.I (by decide)), ?_, ?_, by rw [ar.n]; exact i8, ?_⟩
    · unfold LK at i2 ⊢
      rw [ar.I (a := 0) (by decide), ar.I (a := 1) (by decide)]
      exact i2
    · rw [ar.I (a := 93) (by decide), ar.I (a := 126) (by decide)]
      exact i6
    · rw [ar.I (a := 37) (by decide), ar.I (a := 132) (by decide)]
      exact i7
    · rw [core_fr ar (by decide)]
      exact i9.fr i8 (ar.I (by decide)) (ar.I (by decide)) (ar.I (by decide)) (ar.I (by decide)) (fun j => ar.R (by decide) j) (ar.I (by decide)) (ar.J (by decide)) (by rw [f2.2.2.1 13 (by decide), e109]) (by rw [f2.2.2.1 14 (by decide), e109]) (Gr.ar ar) (by decide) (by decide)
