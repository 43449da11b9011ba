/-! ===== crew, move, clear: one answer ===== -/
theorem P_crew {m : am_M} (hI : Inv m) (r c : Int) (hbr : -2147483648 ≤ r ∧ r ≤ 2147483647) (hbc : -2147483648 ≤ c ∧ c ≤ 2147483647) : Pr 134 [some (.ref 3), some (.int (iI r)), some (.int (iI c)), none, none] 212 [some (.ref 109), some (.int (iI r)), some (.int (iI c)), none] m := by
  obtain ⟨n, E, C, tp, sz, lt, i1, i2, i3, i4, i5, i6, i7, i8, i9⟩ := id hI
  have hE := i4.1.ever
  have hC := i4.1.crews
  have h9 := i9
  obtain ⟨t1, t2, t3, t4, t5, t6, t7, _⟩ := h9
  have gd : (cth m r c && !decide (C = 8)) = (mth m r c && !decide (C = 8)) := by rw [i1.th]
  refine S_ccrew m _ C (CS_of i4) tp sz t1 t2 t4 t5 r c hbr hbc (fun z => ?_) (fun z m0 m1 f0 g1 g2 k1 => ?_)
  · rw [gd] at z
    exact S_mcrew m _ i1.2.1.2.2.2 C (CR_of i4) lt sz t3 t2 t7 t6 r c hbr hbc (fun _ => ⟨rfl, ⟨_, rfl⟩, hI⟩) (fun w => by rw [z] at w; cases w)
  · rw [gd] at z
    have gk : Gr [91, 92] m m0 := Gr.ar (Ar.ag f0 (fun _ z => z))
    have e115 := (k1.fr gk i8 115 (by decide) (by decide) (by decide)).1
    have e109 := (k1.fr gk i8 109 (by decide) (by decide) (by decide)).1
    have e110 := (k1.fr gk i8 110 (by decide) (by decide) (by decide)).1
    obtain ⟨y1, y2⟩ := Bool.and_eq_true_iff.mp z
    have C8 : C < 8 := by
      have := hC.1
      have : ¬ C = 8 := fun w => by rw [decide_eq_true w] at y2; cases y2
      omega
    have hb := mth_b i1.2.1.2.2.2 y1
    have L1 : ML m1 := by
      unfold ML
      rw [e110]
      exact i1.2.1.2.2.2
    have CR1 : CR m1 C := by
      have := CR_of i4
      unfold CR at this ⊢
      rw [e115]
      exact this
    refine S_mcrew m1 _ L1 C CR1 lt sz t3 t2 (by rw [e109]; exact t7) (by rw [e109]; exact t6) r c hbr hbc (fun w => ?_) (fun _ m2 f2 ac s => ⟨rfl, ⟨_, rfl⟩, ?_⟩)
    · unfold mth at w z
      rw [e110, z] at w
      cases w
    rw [e115] at s
    have f2' : Fm [115, 116, 117, 118, 119, 124, 125] [6, 7, 8, 13, 14] m1 m2 := f2.sub (by decide) (by decide)
    have ar := k1.ar f2'
    have gT := gr_act gk ar
    have r0 : RC m2 (core m E C) (m.1 115) (m.2.1 116) := RC.gr gT i8 (by decide) (by decide) i4.1
    have e35 : (fun i => am_gR YL m2 35 i) = fun i => am_gR YL m 35 i := funext fun i => gT.R (by omega) (by decide) i
    have e36 : m2.1 36 = m.1 36 := gT.I (by omega) (by decide)
    have e39 : m2.1 39 = m.1 39 := gT.I (by omega) (by decide)
    have e40 : m2.1 40 = m.1 40 := gT.I (by omega) (by decide)
    have e116 : m2.2.1 116 = m.2.1 116 := by rw [f2.2.1 116 (by decide)]; exact (k1.fr gk i8 116 (by decide) (by decide) (by decide)).2
    have e92 : ∀ j, m2.1 92 j = if j = C then iI (16 * r + c) else m.1 92 j := fun j => by rw [ar.I (by decide), g2]
    have rn : RN m2 E (C + 1) := by
      have tl := i4.tail gT (by decide) 20 (E' := E) (fun i _ _ => congrFun e35 i) (fun f _ _ k _ => by rw [e36]) (fun f _ _ => by rw [gT.I (by omega) (by decide)]) (fun f hf _ => gT.J (by omega) (fun z => by simp only [UU, List.mem_append, List.mem_cons, List.not_mem_nil, or_false] at z; omega)) (fun f hf _ => hf) (fun w => absurd w (by omega)) (fun w => absurd w (by omega))
      refine ⟨?_, by rw [gT.I (by omega) (by decide)]; exact i4.2.1, by rw [ar.I (by decide)]; exact g1, ?_, tl.1, tl.2⟩
      · rw [e35, e36, e39, e40, e116]
        refine ⟨fun i hi => (r0.places i hi).s (fun k hk => by rw [s, if_neg (by omega), if_neg (by omega)]) (fun _ _ => rfl), fun i hi => by rw [s, if_neg (by omega), if_neg (by omega)]; exact r0.joined i hi, r0.joins, ⟨hE.1, by rw [s, if_neg (by omega), if_neg (by omega)]; exact hE.2⟩, fun f hf => by rw [s, if_neg (by omega), if_neg (by omega)]; exact r0.outs f hf, fun f hf => by rw [s, if_neg (by omega), if_neg (by omega)]; exact r0.again f hf, ⟨by omega, by rw [s, if_neg (by omega), if_pos rfl]⟩, fun k hk => ?_, r0.patch⟩
        rw [s, e92]
        by_cases c' : k = C
        · rw [if_pos c', if_pos (by omega), iI_to (by omega) (by omega)]
          exact ⟨rfl, by omega, by omega⟩
        · rw [if_neg c', if_neg (by omega), if_neg (by omega)]
          exact r0.stands k (by show k < C; omega)
      · rw [gT.I (by omega) (by decide), show (fun i => (am_gR YL m2 35 i).isSome) = fun i => (am_gR YL m 35 i).isSome from funext fun i => by rw [show am_gR YL m2 35 i = am_gR YL m 35 i from congrFun e35 i]]
        exact i4.2.2.2.1
    refine Inv.act (n := n) (E' := E) (C' := C + 1) i1 i2 i4 i5 i6 i7 i8 i9 gk (by decide) (by decide) k1 f2' ac (i3.act i8 gk (by decide) ar (by rw [f2.2.2.1 5 (by decide), e109])) rn ?_ ?_
    · exact Or.inr (Or.inr (Or.inr (Or.inr (Or.inr (Or.inr (Or.inl ⟨rfl, C, C8, rfl⟩))))))
    · rw [Un_6]
      refine ⟨fun i hi => ⟨congrFun e35 i, congrFun e36 i⟩, rfl, fun f hf => ⟨congrFun e39 f, congrFun e40 f⟩, rfl, fun k hk => ?_⟩
      have hk : k < C + 1 - 1 := hk
      show m2.1 92 k = m.1 92 k
      rw [e92, if_neg (by omega)]
theorem A_clear {m : am_M} {E C : Nat} (h : RN m E C) (i : Int) : cclok m i = mclok m i := by
  unfold cclok mclok cent cfi inR
  by_cases c : 0 ≤ i ∧ i < 60
  · rw [if_pos c, if_pos c, decide_eq_true (show 0 ≤ i ∧ i ≤ 59 by omega), Bool.true_and]
    have hi : i.toNat < 60 := by omega
    have p := h.1.places i.toNat hi
    rw [h.1.joined i.toNat hi]
    cases hr : am_gR YL m 35 i.toNat with
    | none =>
      rw [hr] at p
      have p : m.1 115 i.toNat = 6 := p
      rw [p, decide_eq_true (show (6 : Int32) = 6 from rfl)]
      rfl
    | some e =>
      rw [hr] at p
      obtain ⟨p0, p1, p2, p3, _, _, _, p7, _⟩ := p
      have n6 : ¬ m.1 e 0 = 6 := fun z => by rw [z] at p3; exact absurd p3 (by decide)
      rw [p1, decide_eq_false n6]
      by_cases c5 : m.1 e 0 = 5
      · have j : m.1 36 i.toNat = -1 := by
          rcases h.1.joins i.toNat hi with w | ⟨f, hf, _, e', s, h1, h2⟩
          · exact w
          · have h1 : am_gR YL m 35 i.toNat = some e' := h1
            rw [hr] at h1
            cases h1
            rw [p7.mpr c5] at h2
            cases h2
        rw [j, c5]
        rfl
      · have : ¬ 5 ≤ (m.1 e 0).toInt := fun z => c5 ((i32_5 p3).mpr (by omega))
        rw [decide_eq_false this]
        rfl
  · rw [if_neg c, if_neg c, decide_eq_false (show ¬ (0 ≤ i ∧ i ≤ 59) by omega)]
    rfl
theorem P_clear {m : am_M} (hI : Inv m) (i : Int) (hbi : -2147483648 ≤ i ∧ i ≤ 2147483647) : Pr 122 [some (.ref 3), some (.int (iI i)), none] 187 [some (.ref 109), some (.int (iI i))] m := by
  obtain ⟨n, E, C, tp, sz, lt, i1, i2, i3, i4, i5, i6, i7, i8, i9⟩ := id hI
  have hE := i4.1.ever
  have hC := i4.1.crews
  have h9 := i9
  obtain ⟨t1, t2, t3, t4, t5, t6, t7, _⟩ := h9
  have gd := A_clear i4 i
  refine S_cclear m _ i4.bk _ i4.2.2.2.1 tp sz t1 t2 t4 t5 i hbi (fun z => ?_) (fun z z1 z2 e he m1 k1 => ?_)
  · rw [gd] at z
    exact S_mclear m _ lt sz t3 t2 t7 t6 i hbi (fun _ => ⟨rfl, ⟨_, rfl⟩, hI⟩) (fun w => by rw [z] at w; cases w)
  · have zc := z
    rw [gd] at z
    obtain ⟨g, rfl⟩ : ∃ n : Nat, i = (n : Int) := ⟨i.toNat, by omega⟩
    rw [Int.toNat_natCast] at k1 he
    have hg : g < 60 := by omega
    have jg : m.1 36 g = -1 := by
      have := of_decide_eq_true (Bool.and_eq_true_iff.mp zc).2
      rw [cfi_n m hg] at this
      exact this
    have gk : Gr [34, 35] m (am_pR (am_pI m 34 3 (iI ((fb_ct (fun i => (am_gR YL m 35 i).isSome) 60 : Int) - 1))) 35 g none) := Gr.ar (((Ar.rf _ m).pI (by decide) _ _).pR (by decide) _ _)
    have e115 := (k1.fr gk i8 115 (by decide) (by decide) (by decide)).1
    have e109 := (k1.fr gk i8 109 (by decide) (by decide) (by decide)).1
    have em : mclok m1 (g : Int) = mclok m (g : Int) := by
      unfold mclok
      rw [e115]
    refine S_mclear m1 _ lt sz t3 t2 (by rw [e109]; exact t7) (by rw [e109]; exact t6) (g : Int) hbi (fun w => by rw [em, z] at w; cases w) (fun _ m2 f2 ac s => ⟨rfl, ⟨_, rfl⟩, ?_⟩)
    rw [Int.toNat_natCast, e115] at s
    have f2' : Fm [115, 116, 117, 118, 119, 124, 125] [6, 7, 8, 13, 14] m1 m2 := f2.sub (by decide) (by decide)
    have ar := k1.ar f2'
    have gT := gr_act gk ar
    have r0 : RC m2 (core m E C) (m.1 115) (m.2.1 116) := RC.gr gT i8 (by decide) (by decide) i4.1
    have e35 : ∀ j, am_gR YL m2 35 j = if j = g then none else am_gR YL m 35 j := fun j => by
      rw [ar.R (by decide)]
      exact am_pR_at _ 35 g j none
    have e36 : m2.1 36 = m.1 36 := gT.I (by omega) (by decide)
    have e39 : m2.1 39 = m.1 39 := gT.I (by omega) (by decide)
    have e40 : m2.1 40 = m.1 40 := gT.I (by omega) (by decide)
    have e92 : m2.1 92 = m.1 92 := gT.I (by omega) (by decide)
    have e116 : m2.2.1 116 = m.2.1 116 := by rw [f2.2.1 116 (by decide)]; exact (k1.fr gk i8 116 (by decide) (by decide) (by decide)).2
    have rn : RN m2 E C := by
      have tl := i4.tail gT (by decide) 20 (E' := E) (fun i _ y => by rw [e35, if_neg (fun w => y (by rw [w]; exact jg))]) (fun f _ _ k _ => by rw [e36]) (fun f _ _ => by rw [gT.I (by omega) (by decide)]) (fun f hf _ => gT.J (by omega) (fun z => by simp only [UU, List.mem_append, List.mem_cons, List.not_mem_nil, or_false] at z; omega)) (fun f hf _ => hf) (fun w => absurd w (by omega)) (fun w => absurd w (by omega))
      refine ⟨?_, by rw [gT.I (by omega) (by decide)]; exact i4.2.1, by rw [gT.I (by omega) (by decide)]; exact i4.2.2.1, ?_, tl.1, tl.2⟩
      · rw [e36, e39, e40, e92, e116]
        refine ⟨fun i hi => ?_, fun i hi => by rw [s, if_neg (by omega)]; exact r0.joined i hi, fun i hi => ?_, ⟨hE.1, by rw [s, if_neg (by omega)]; exact hE.2⟩, fun f hf => by rw [s, if_neg (by omega)]; exact r0.outs f hf, fun f hf => by rw [s, if_neg (by omega)]; exact r0.again f hf, ⟨hC.1, by rw [s, if_neg (by omega)]; exact hC.2⟩, fun k hk => by rw [s, if_neg (by omega)]; exact r0.stands k hk, r0.patch⟩
        · show PlOK m2 (am_gR YL m2 35 i) (m2.1 115) (m.2.1 116) i
          rw [e35]
          by_cases c : i = g
          · rw [if_pos c]
            show m2.1 115 i = 6
            rw [s, if_pos c]
          · rw [if_neg c]
            exact (r0.places i hi).s (fun k hk => by rw [s, if_neg (by omega)]) (fun _ _ => rfl)
        · rcases r0.joins i hi with w | ⟨f, hf, y, e', s', h1, h2⟩
          · exact Or.inl w
          · refine Or.inr ⟨f, hf, y, e', s', ?_, h2⟩
            show am_gR YL m2 35 i = some e'
            rw [e35, if_neg (fun w => ?_)]
            · exact h1
            · have hf : f < E := hf
              rw [w] at y
              exact iIn (by omega) (y.symm.trans jg)
      · rw [ar.I (by decide)]
        have cu := fb_ct_upd (fun j => (am_gR YL m 35 j).isSome) false hg
        have e1 : fb_ct (fun i => (am_gR YL m2 35 i).isSome) 60 = fb_ct (fun k => if k = g then false else (am_gR YL m 35 k).isSome) 60 := fb_ct_cong (fun k _ => by
          rw [e35]
          by_cases c : k = g
          · rw [if_pos c, if_pos c]; rfl
          · rw [if_neg c, if_neg c])
        have e2 : (am_gR YL m 35 g).isSome = true := by rw [he]; rfl
        rw [if_pos e2, if_neg (by decide)] at cu
        have cv : fb_ct (fun i => (am_gR YL m2 35 i).isSome) 60 + 1 = fb_ct (fun j => (am_gR YL m 35 j).isSome) 60 := by
          rw [e1]
          exact cu
        show (am_pI m 34 3 _).1 34 3 = _
        rw [am_pI_at, if_pos rfl, ← cv]
        exact congrArg iI (by omega)
    refine Inv.act (n := n) (E' := E) (C' := C) i1 i2 i4 i5 i6 i7 i8 i9 gk (by decide) (by decide) k1 f2' ac (i3.act i8 gk (by decide) ar (by rw [f2.2.2.1 5 (by decide), e109])) rn ?_ ?_
    · exact Or.inr (Or.inl ⟨rfl, g, hg, rfl, by show am_gR YL m2 35 g = none; rw [e35, if_pos rfl], e, rfl⟩)
    · rw [Un_1, toN (by omega)]
      refine ⟨fun i hi => ⟨?_, congrFun e36 i⟩, rfl, fun f hf => ⟨congrFun e39 f, congrFun e40 f⟩, rfl, fun k hk => congrFun e92 k⟩
      show cup (fun i => am_gR YL m2 35 i) g (some e) i = am_gR YL m 35 i
      unfold cup
      by_cases c : i = g
      · rw [if_pos c, c, he]
      · rw [if_neg c]
        show am_gR YL m2 35 i = am_gR YL m 35 i
        rw [e35, if_neg c]
theorem P_move {m : am_M} (hI : Inv m) (k r c : Int) (hbk : -2147483648 ≤ k ∧ k ≤ 2147483647) (hbr : -2147483648 ≤ r ∧ r ≤ 2147483647) (hbc : -2147483648 ≤ c ∧ c ≤ 2147483647) : Pr 135 [some (.ref 3), some (.int (iI k)), some (.int (iI r)), some (.int (iI c)), none, none] 214 [some (.ref 109), some (.int (iI k)), some (.int (iI r)), some (.int (iI c))] m := by
  obtain ⟨n, E, C, tp, sz, lt, i1, i2, i3, i4, i5, i6, i7, i8, i9⟩ := id hI
  have hE := i4.1.ever
  have hC := i4.1.crews
  have h9 := i9
  obtain ⟨t1, t2, t3, t4, t5, t6, t7, _⟩ := h9
  have gd : (cco m k && cth m r c) = (mco m k && mth m r c) := by rw [(A_crew i4 k).1, i1.th]
  have base : ∀ ma, Ag [87, 88, 89, 90] m ma → WC ma → tab (ced m) (cw m) (16 * r + c).toNat (lvt ma) → (mco m k && mth m r c) = true → Inv ma ∧ Wd ma ∧ RN ma E C ∧ Tw ma n ∧ Hist ma tp sz lt (core ma E C) ∧ am_n ma = am_n m ∧ tab (ced ma) (cw ma) (16 * r + c).toNat (lvt ma) ∧ mca ma k.toNat = cat m k.toNat ∧ (mco ma k && mth ma r c) = true ∧ ma.1 109 = m.1 109 ∧ ma.1 92 = m.1 92 ∧ LK ma ∧ (∀ f, f < 20 → ma.1 93 f = ma.1 126 f) ∧ (∀ i, i < 60 → ma.1 37 i = ma.1 132 i) := by
    intro ma f1 w1 tb z
    have ar : Ar [87, 88, 89, 90] m ma := Ar.ag f1 (fun _ z => z)
    have e115 : ma.1 115 = m.1 115 := ar.I (by decide)
    refine ⟨hI.wy f1 w1, i1.fr ar (by decide), i4.fr ar i8 (by decide) (by decide) (fun f hf z => by simp only [List.mem_cons, List.not_mem_nil, or_false] at z; omega), i3.fr (ar.I (by decide)) (ar.J (by decide)) (ar.I (by decide)) (ar.I (by decide)) (ar.I (by decide)) (ar.I (by decide)) (ar.J (by decide)) (fun t ht => ar.J (fun z => by simp only [List.mem_cons, List.not_mem_nil, or_false] at z; omega)) (ar.I (by decide)) (ar.I (by decide)) (by rw [ar.I (by decide)]), ?_, ar.n, ?_, ?_, ?_, ar.I (by decide), ar.I (by decide), ?_, ?_, ?_⟩
    · rw [core_fr ar (by decide)]
      exact i9.fr i8 (ar.I (by decide)) (ar.I (by decide)) (ar.I (by decide)) (ar.I (by decide)) (fun j => ar.R (by decide) j) (ar.I (by decide)) (ar.J (by decide)) (by rw [ar.I (by decide)]) (by rw [ar.I (by decide)]) (Gr.ar ar) (by decide) (by decide)
    · rw [show ced ma = ced m from funext fun a => funext fun b => ced_fr (ar.J (by decide)) a b, show cw ma = cw m from funext fun a => funext fun b => cw_fr (ar.I (by decide)) (ar.I (by decide)) a b]
      exact tb
    · rw [((A_crew i4 k).2 (Bool.and_eq_true_iff.mp z).1).1]
      unfold mca
      rw [e115]
    · unfold mco mth
      rw [e115, ar.I (a := 110) (by decide)]
      exact z
    · unfold LK at i2 ⊢
      rw [ar.I (a := 0) (by decide), ar.I (a := 1) (by decide)]
      exact i2
    · rw [ar.I (a := 93) (by decide), ar.I (a := 126) (by decide)]
      exact i6
    · rw [ar.I (a := 37) (by decide), ar.I (a := 132) (by decide)]
      exact i7
  refine S_cmove m _ i1.1 i5 C (CS_of i4) tp sz t1 t2 t4 t5 k r c hbk hbr hbc (fun z => ?_) (fun z c4 m1 f1 w1 tb lv => ?_) (fun z c4 m1 m2 f1 w1 tb lv k1 => ?_)
  · rw [gd] at z
    exact S_mmove m _ i1.2.1 C (CR_of i4) lt sz t3 t2 t7 t6 k r c hbk hbr hbc (fun _ => ⟨rfl, ⟨_, rfl⟩, hI⟩) (fun w => by rw [z] at w; cases w) (fun w => by rw [z] at w; cases w)
  · rw [gd] at z
    obtain ⟨hI1, j1, r1, j3, j9, en, tb1, ma, z1, e109, _, _, _, _⟩ := base m1 f1 w1 tb z
    refine S_mmove m1 _ j1.2.1 C (CR_of r1) lt sz t3 t2 (by rw [e109]; exact t7) (by rw [e109]; exact t6) k r c hbk hbr hbc (fun w => by rw [z1] at w; cases w) (fun _ m2 f2 t2 _ => ⟨rfl, ⟨_, rfl⟩, hI1.scr (f2.sub (by decide) (by decide))⟩) (fun _ m2 L t2 lt2 => ?_)
    exfalso
    rw [ma] at lt2
    have := A_way j1 tb1 t2 (cat m k.toNat) (Or.inr lt2)
    omega
  · rw [gd] at z
    obtain ⟨hI1, j1, r1, j3, j9, en, tb1, ma, z1, e109, e92m, j2, j6, j7⟩ := base m1 f1 w1 tb z
    have zc := (Bool.and_eq_true_iff.mp z).1
    have hb := mth_b i1.2.1.2.2.2 (Bool.and_eq_true_iff.mp z).2
    have kb : 0 ≤ k ∧ k < (C : Int) := by
      rw [mco_C (CR_of i4)] at zc
      have := of_decide_eq_true zc
      omega
    obtain ⟨g, rfl⟩ : ∃ n : Nat, k = (n : Int) := ⟨k.toNat, by omega⟩
    rw [Int.toNat_natCast] at k1 lv ma
    have hg : g < C := by omega
    have i8' : 130 ≤ am_n m1 := by rw [en]; exact i8
    have gk : Gr [92] m1 (am_pI m1 92 g (iI (16 * r + c))) := Gr.ar ((Ar.rf _ m1).pI (by decide) _ _)
    have e115 := (k1.fr gk i8' 115 (by decide) (by decide) (by decide)).1
    have e109' := (k1.fr gk i8' 109 (by decide) (by decide) (by decide)).1
    have e110 := (k1.fr gk i8' 110 (by decide) (by decide) (by decide)).1
    have e111 := (k1.fr gk i8' 111 (by decide) (by decide) (by decide)).1
    have e112 := (k1.fr gk i8' 112 (by decide) (by decide) (by decide)).1
    have W2 : Wd m2 := j1.fe (k1.fr gk i8' 5 (by decide) (by decide) (by decide)).1 (k1.fr gk i8' 6 (by decide) (by decide) (by decide)).1 (k1.fr gk i8' 8 (by decide) (by decide) (by decide)).2 e110 e111 e112
    have CR2 : CR m2 C := by
      have := CR_of r1
      unfold CR at this ⊢
      rw [e115]
      exact this
    have em : med m2 = med m1 := funext fun a => funext fun b => by unfold med mt mbd mth; rw [e110]
    have ew : mw m2 = mw m1 := funext fun a => funext fun b => by unfold mw mwi; rw [e111, e112]
    have ma2 : mca m2 g = cat m g := by
      rw [← ma]
      unfold mca
      rw [e115]
    have z2 : (mco m2 (g : Int) && mth m2 r c) = true := by
      unfold mco mth at z1 ⊢
      rw [e115, e110]
      exact z1
    refine S_mmove m2 _ W2.2.1 C CR2 lt sz t3 t2 (by rw [e109', e109]; exact t7) (by rw [e109', e109]; exact t6) (g : Int) r c hbk hbr hbc (fun w => by rw [z2] at w; cases w) (fun _ m3 f3 t3' fv3 => ?_) (fun _ m3 L t3' lt3 f2 ac s => ⟨rfl, ⟨_, rfl⟩, ?_⟩)
    · exfalso
      rw [Int.toNat_natCast, ma2] at fv3
      rw [em, ew] at t3'
      have := A_way j1 tb1 t3' (cat m g) (Or.inl lv)
      omega
    rw [Int.toNat_natCast, e115] at s
    have f2' : Fm [115, 116, 117, 118, 119, 124, 125] [6, 7, 8, 13, 14] m2 m3 := f2.sub (by decide) (by decide)
    have ar := k1.ar f2'
    have gT := gr_act gk ar
    have r0 : RC m3 (core m1 E C) (m1.1 115) (m1.2.1 116) := RC.gr gT i8' (by decide) (by decide) r1.1
    have e35 : (fun i => am_gR YL m3 35 i) = fun i => am_gR YL m1 35 i := funext fun i => gT.R (by omega) (by decide) i
    have e36 : m3.1 36 = m1.1 36 := gT.I (by omega) (by decide)
    have e39 : m3.1 39 = m1.1 39 := gT.I (by omega) (by decide)
    have e40 : m3.1 40 = m1.1 40 := gT.I (by omega) (by decide)
    have e116 : m3.2.1 116 = m1.2.1 116 := by rw [f2.2.1 116 (by decide)]; exact (k1.fr gk i8' 116 (by decide) (by decide) (by decide)).2
    have e92 : ∀ j, m3.1 92 j = if j = g then iI (16 * r + c) else m1.1 92 j := fun j => by rw [ar.I (by decide), am_pI_at]
    have rn : RN m3 E C := by
      have tl := r1.tail gT (by decide) 20 (E' := E) (fun i _ _ => congrFun e35 i) (fun f _ _ k _ => by rw [e36]) (fun f _ _ => by rw [gT.I (by omega) (by decide)]) (fun f hf _ => gT.J (by omega) (fun z => by simp only [UU, List.mem_append, List.mem_cons, List.not_mem_nil, or_false] at z; omega)) (fun f hf _ => hf) (fun w => absurd w (by omega)) (fun w => absurd w (by omega))
      have hE1 := r1.1.ever
      have hC1 := r1.1.crews
      refine ⟨?_, by rw [gT.I (by omega) (by decide)]; exact r1.2.1, by rw [gT.I (by omega) (by decide)]; exact r1.2.2.1, ?_, tl.1, tl.2⟩
      · rw [e35, e36, e39, e40, e116]
        refine ⟨fun i hi => (r0.places i hi).s (fun k hk => by rw [s, if_neg (by omega)]) (fun _ _ => rfl), fun i hi => by rw [s, if_neg (by omega)]; exact r0.joined i hi, r0.joins, ⟨hE1.1, by rw [s, if_neg (by omega)]; exact hE1.2⟩, fun f hf => by rw [s, if_neg (by omega)]; exact r0.outs f hf, fun f hf => by rw [s, if_neg (by omega)]; exact r0.again f hf, ⟨hC1.1, by rw [s, if_neg (by omega)]; exact hC1.2⟩, fun k hk => ?_, r0.patch⟩
        rw [s, e92]
        by_cases c' : k = g
        · rw [if_pos c', if_pos (by omega), iI_to (by omega) (by omega)]
          exact ⟨rfl, by omega, by omega⟩
        · rw [if_neg c', if_neg (by omega)]
          exact r0.stands k hk
      · rw [gT.I (by omega) (by decide), show (fun i => (am_gR YL m3 35 i).isSome) = fun i => (am_gR YL m1 35 i).isSome from funext fun i => by rw [show am_gR YL m3 35 i = am_gR YL m1 35 i from congrFun e35 i]]
        exact r1.2.2.2.1
    refine Inv.act (n := n) (E' := E) (C' := C) j1 j2 r1 w1 j6 j7 i8' j9 gk (by decide) (by decide) k1 f2' ac (j3.act i8' gk (by decide) ar (by rw [f2.2.2.1 5 (by decide), e109'])) rn ?_ ?_
    · exact Or.inr (Or.inr (Or.inr (Or.inr (Or.inr (Or.inr (Or.inr ⟨rfl, g, rfl, hg⟩))))))
    · rw [Un_7, toN (by omega)]
      refine ⟨fun i hi => ⟨congrFun e35 i, congrFun e36 i⟩, rfl, fun f hf => ⟨congrFun e39 f, congrFun e40 f⟩, rfl, fun k hk => ?_⟩
      show cup (m3.1 92) g (m.1 92 ((g : Int)).toNat) k = m1.1 92 k
      unfold cup
      rw [Int.toNat_natCast]
      by_cases c : k = g
      · rw [if_pos c, c, e92m]
      · rw [if_neg c, e92, if_neg c]
