/-! ===== begin, apart: one answer ===== -/
theorem A_begin {m : am_M} {E C : Nat} (h : RN m E C) (i : Int) : cbok m i E = mbok m i E := by
  unfold cbok mbok
  by_cases b : 0 ≤ i ∧ i < 60
  · obtain ⟨n, rfl⟩ : ∃ n : Nat, i = (n : Int) := ⟨i.toNat, by omega⟩
    have hi : n < 60 := by omega
    cases z : msi m (n : Int) with
    | true =>
      obtain ⟨e, s, he, hs, hc, hw⟩ := h.sqs hi z
      rw [hc]
      dsimp only
      rw [wm_self, fb_ct_cong hw, cfi_n m hi, Int.toNat_natCast, h.1.joined n hi]
      cases decide (m.1 36 n = -1) <;> cases decide (fb_ct (wb (mv m 116 n)) 256 = 0) <;> cases decide (E = 20) <;> rfl
    | false =>
      have : csq m (n : Int) = none := by
        cases hc : csq m (n : Int) with
        | none => rfl
        | some s =>
          exfalso
          obtain ⟨e, h1, h2, _, _⟩ := csq_i hc
          rw [cent_n m hi] at h1
          rw [← h.si hi] at z
          unfold csg at z
          rw [h1] at z
          dsimp only at z
          have : m.1 e 0 = 5 := by
            by_cases c : m.1 e 0 = 5
            · exact c
            · rw [decide_eq_false c] at z
              cases z
          rw [(h.sg n hi e h1).mpr this] at h2
          cases h2
      rw [this, Bool.false_and]
  · have e1 : csq m i = none := by
      unfold csq cent
      rw [if_neg b]
    have e2 : msi m i = false := decide_eq_false (fun z => b ⟨z.1, by omega⟩)
    rw [e1, e2, Bool.false_and]
theorem A_lom {m : am_M} {E C : Nat} (h : RN m E C) {i s f : Nat} (hf : f < E) (hw : ∀ q, q < 256 → wb (m.2.1 (s + 1)) q = wb (mv m 116 i) q) : lom m s f = mag m i f := by
  have hE := h.1.ever.1
  have cb := cst_b m (f : Int)
  unfold lom mag
  rw [wm_mtb, ← h.st hf, show (1 : Int32) = iI 1 from rfl, show decide (iI (cst m (f : Int)) = iI 1) = decide (cst m (f : Int) = 1) from decide_eq_decide.mpr (iI_eq (by omega) (by omega) (by omega) (by omega)), mtb_cong (fun q hq => by rw [h.2.2.2.2.2 f hf q hq, h.pt (by omega) hq]) hw]
theorem lst_c {p r : Nat → Bool} : ∀ n, (∀ k, k < n → p k = r k) → lst p n = lst r n
  | 0, _ => rfl
  | n + 1, h => by
    show (if p n = true then (n : Int) else lst p n) = (if r n = true then (n : Int) else lst r n)
    rw [h n (by omega), lst_c n (fun k hk => h k (by omega))]
theorem P_begin {m : am_M} (hI : Inv m) (i : Int) (hbi : -2147483648 ≤ i ∧ i ≤ 2147483647) : Pr 126 [some (.ref 3), some (.int (iI i)), none, none] 196 [some (.ref 109), some (.int (iI i)), none, none, none] m := by
  obtain ⟨n, E, C, tp, sz, lt, i1, i2, i3, i4, i5, i6, i7, i8, i9⟩ := id hI
  have hE := i4.1.ever
  have hC := i4.1.crews
  have h9 := i9
  obtain ⟨t1, t2, t3, t4, t5, t6, t7, _⟩ := h9
  have gd := A_begin i4 i
  refine S_cbegin m _ i4.bk i4.js i4.jb E hE.1 i4.2.1 tp sz t1 t2 t4 t5 i hbi (fun z => ?_) (fun z sq hsq m0 m1 m2 f0 g38 g39 g40 rr k1 => ?_)
  · rw [gd] at z
    exact S_mbegin m _ E hE.1 hE.2 lt sz t3 t2 t7 t6 i hbi (fun _ => ⟨rfl, ⟨_, rfl⟩, hI⟩) (fun w => by rw [z] at w; cases w)
  · rw [gd] at z
    have zz := z
    unfold mbok at zz
    obtain ⟨y1, zz⟩ := Bool.and_eq_true_iff.mp zz
    obtain ⟨y2, zz⟩ := Bool.and_eq_true_iff.mp zz
    obtain ⟨y3, y4⟩ := Bool.and_eq_true_iff.mp zz
    have y1' := of_decide_eq_true y1
    obtain ⟨g, rfl⟩ : ∃ n : Nat, i = (n : Int) := ⟨i.toNat, by omega⟩
    have hi : g < 60 := by omega
    rw [Int.toNat_natCast] at rr y2 y3
    have y2 := of_decide_eq_true y2
    rw [i4.1.joined g hi] at y2
    have E20 : E < 20 := by
      have := hE.1
      have : ¬ E = 20 := fun w => by rw [decide_eq_true w] at y4; cases y4
      omega
    obtain ⟨e, sq', he, hs, hc, hw⟩ := i4.sqs hi y1
    rw [hsq] at hc
    cases hc
    have ng : ∀ j, j < 60 → ¬ m.1 36 j = iI (E : Int) := fun j hj w => by
      rcases i4.1.joins j hj with y | ⟨f, hf, y, _⟩
      · exact iIn (by omega) (w.symm.trans y)
      · have := iIi (f := f) (g := E) (by omega) (by omega) (y.symm.trans w)
        omega
    have ar0 : Ar (36 :: 38 :: 39 :: 40 :: TP) m (am_pI m0 36 g (iI (E : Int))) := (Ar.ag f0 (by decide)).pI (by decide) g (iI (E : Int))
    have gk : Gr (36 :: 38 :: 39 :: 40 :: TP) m m1 := Gr.ar (ar0.tr ((rr.ar E20).sub (fun a z => List.mem_cons_of_mem _ (List.mem_cons_of_mem _ (List.mem_cons_of_mem _ (List.mem_cons_of_mem _ z))))))
    have e115 := (k1.fr gk i8 115 (by decide) (by decide) (by decide)).1
    have e116 := (k1.fr gk i8 116 (by decide) (by decide) (by decide)).2
    have e109 := (k1.fr gk i8 109 (by decide) (by decide) (by decide)).1
    have em : mbok m2 (g : Int) E = mbok m (g : Int) E := by
      unfold mbok msi mv
      rw [e115, e116]
    refine S_mbegin m2 _ E hE.1 (by rw [e115]; exact hE.2) lt sz t3 t2 (by rw [e109]; exact t7) (by rw [e109]; exact t6) (g : Int) hbi (fun w => by rw [em, z] at w; cases w) (fun _ m3 f2 ac s => ⟨rfl, ⟨_, rfl⟩, ?_⟩)
    have el : lst (mag m2 g) E = lst (lom m sq) E := lst_c E (fun f hf => by
      rw [A_lom i4 hf hw]
      unfold mag mv
      rw [e115, e116, show mpt m2 (iI (f : Int)) 60 = mpt m (iI (f : Int)) 60 from funext fun q => mpt_fe e115 e116 _ _ _])
    rw [Int.toNat_natCast, e115, el] at s
    have f2' : Fm [115, 116, 117, 118, 119, 124, 125] [6, 7, 8, 13, 14] m2 m3 := f2.sub (by decide) (by decide)
    have ar := k1.ar f2'
    have gT := gr_act gk ar
    have hT : ∀ a, a ∈ (36 :: 38 :: 39 :: 40 :: TP) ++ UU → a < 133 := by decide
    have r0 : RC m3 (core m E C) (m.1 115) (m.2.1 116) := RC.gr gT i8 hT (by decide) i4.1
    have e35 : (fun i => am_gR YL m3 35 i) = fun i => am_gR YL m 35 i := funext fun i => gT.R (by omega) (by decide) i
    have e92 : m3.1 92 = m.1 92 := gT.I (by omega) (by decide)
    have e116' : m3.2.1 116 = m.2.1 116 := by rw [f2.2.1 116 (by decide), e116]
    have rI : ∀ a, a ∉ TP → m1.1 a = (am_pI m0 36 g (iI (E : Int))).1 a := fun a ha => (rr.ar E20).I ha
    have e36' : ∀ j, m3.1 36 j = (am_pI m0 36 g (iI (E : Int))).1 36 j := fun j => by rw [ar.I (by decide), rI 36 (by decide)]
    have e36 : ∀ j, m3.1 36 j = if j = g then iI (E : Int) else m.1 36 j := fun j => by
      rw [e36', am_pI_at, f0.I (by decide)]
    have e39 : ∀ f, m3.1 39 f = if f = E then 0 else m.1 39 f := fun f => by
      rw [ar.I (by decide), rI 39 (by decide), am_pI_ne (by decide), g39]
    have e40 : ∀ f, m3.1 40 f = if f = E then iI (lst (lom m sq) E) else m.1 40 f := fun f => by
      rw [ar.I (by decide), rI 40 (by decide), am_pI_ne (by decide), g40]
    have ne : ∀ f, f < 20 → f ≠ E → ∀ k, (m3.1 36 k = iI (f : Int) ↔ m.1 36 k = iI (f : Int)) := by
      intro f hf hfg k
      rw [e36]
      by_cases c : k = g
      · rw [if_pos c, c, y2]
        exact ⟨fun z => absurd (iIi (by omega) (by omega) z) (fun w => hfg w.symm), fun z => absurd z.symm (iIn (by omega))⟩
      · rw [if_neg c]
    have cm : ∀ f, f < 20 → f ≠ E → fb_ct (fun j => decide (m3.1 36 j = iI (f : Int))) 60 = fb_ct (fun j => decide (m.1 36 j = iI (f : Int))) 60 := fun f hf hfg => fb_ct_cong (fun k _ => decide_eq_decide.mpr (ne f hf hfg k))
    have cg : 0 < fb_ct (fun j => decide (m3.1 36 j = iI (E : Int))) 60 := fb_ct_pos.mpr ⟨g, hi, decide_eq_true (by rw [e36, if_pos rfl])⟩
    have rn : RN m3 (E + 1) C := by
      have rt := rr.tail E20 ar gT hT ar0 (by decide) (by decide) i4.bk e35
      have tl := i4.tail gT hT E (E' := E + 1) (fun i _ _ => congrFun e35 i) (fun f hf hfg k _ => ne f (by omega) hfg k) (fun f hf hfg => by rw [ar.I (by decide), rr.2.1, if_neg hfg, am_pI_ne (by decide), f0.I (by decide)]) (fun f hf hfg => by
        rw [ar.J (fun z => by simp only [UU, List.mem_cons, List.not_mem_nil, or_false] at z; omega), rr.1.J (fun z => by simp only [List.mem_cons, List.not_mem_nil, or_false] at z; omega)]
        show m0.2.1 (48 + 2 * f) = m.2.1 (48 + 2 * f)
        rw [f0.J (fun z => by simp only [List.mem_cons, List.not_mem_nil, or_false] at z; omega)]) (fun f hf hfg => by omega) (fun _ => rt.2.1) (fun _ => rt.2.2)
      refine ⟨?_, by rw [ar.I (by decide), rI 38 (by decide), am_pI_ne (by decide)]; exact g38, by rw [gT.I (by omega) (by decide)]; exact i4.2.2.1, ?_, tl.1, tl.2⟩
      · rw [e35, e92, e116']
        refine ⟨fun j hj => (r0.places j hj).s (fun k hk => by rw [s, if_neg (by omega), if_neg (by omega), if_neg (by omega), if_neg (by omega)]) (fun _ _ => rfl), fun j hj => ?_, fun j hj => ?_, ⟨by omega, by rw [s, if_neg (by omega), if_neg (by omega), if_neg (by omega), if_pos rfl]⟩, fun f hf => ?_, fun f hf => ?_, ⟨hC.1, by rw [s, if_neg (by omega), if_neg (by omega), if_neg (by omega), if_neg (by omega)]; exact hC.2⟩, fun k hk => by rw [s, if_neg (by omega), if_neg (by omega), if_neg (by omega), if_neg (by omega)]; exact r0.stands k hk, fun f hf hc => ?_⟩
        · rw [s, e36]
          by_cases c : j = g
          · rw [if_pos c, if_pos (by omega)]
          · rw [if_neg c, if_neg (by omega), if_neg (by omega), if_neg (by omega), if_neg (by omega)]
            exact r0.joined j hj
        · by_cases c : j = g
          · refine Or.inr ⟨E, by omega, by rw [e36, if_pos c], e, sq, by rw [c]; exact he, ?_⟩
            have b := i4.bk g hi e he
            rw [gT.R b.2.2.1 (fun z => by have := hT e z; have := b.2.1; omega)]
            exact hs
          · rw [e36, if_neg c]
            rcases r0.joins j hj with y | ⟨f, hf, y⟩
            · exact Or.inl y
            · exact Or.inr ⟨f, Nat.lt_succ_of_lt hf, y⟩
        · rw [s, e39]
          by_cases c : f = E
          · rw [if_pos c, if_neg (by omega), if_neg (by omega), if_pos (by omega), c, if_pos rfl, if_pos cg]
            exact ⟨Or.inl rfl, rfl⟩
          · rw [if_neg c, if_neg (by omega), if_neg (by omega), if_neg (by omega), if_neg (by omega), cm f (by omega) c]
            exact r0.outs f (by show f < E; omega)
        · rw [s, e40]
          by_cases c : f = E
          · rw [if_pos c, if_neg (by omega), if_pos (by omega)]
          · rw [if_neg c, if_neg (by omega), if_neg (by omega), if_neg (by omega), if_neg (by omega)]
            exact r0.again f (by show f < E; omega)
        · by_cases c : f = E
          · have y3' : 0 < fb_ct (wb (mv m 116 g)) 256 := by
              by_cases w : fb_ct (wb (mv m 116 g)) 256 = 0
              · rw [decide_eq_true w] at y3
                cases y3
              · omega
            obtain ⟨q, hq, w⟩ := fb_ct_pos.mp y3'
            refine ⟨q, hq, fun j hj ej => ?_⟩
            rw [e36, c] at ej
            by_cases cj : j = g
            · rw [cj]
              exact w
            · rw [if_neg cj] at ej
              exact absurd ej (ng j hj)
          · rw [cm f (by omega) c] at hc
            obtain ⟨q, hq, w⟩ := i4.1.patch f (by omega) hc
            exact ⟨q, hq, fun j hj ej => w j hj ((ne f (by omega) c j).mp ej)⟩
      · rw [gT.I (by omega) (by decide), show (fun i => (am_gR YL m3 35 i).isSome) = fun i => (am_gR YL m 35 i).isSome from funext fun i => by rw [show am_gR YL m3 35 i = am_gR YL m 35 i from congrFun e35 i]]
        exact i4.2.2.2.1
    refine Inv.act (n := n) (E' := E + 1) (C' := C) i1 i2 i4 i5 i6 i7 i8 i9 gk (by decide) (by decide) k1 f2' ac (i3.act i8 gk (by decide) ar (by rw [f2.2.2.1 5 (by decide), e109])) rn ?_ ?_
    · exact Or.inr (Or.inr (Or.inr (Or.inl ⟨rfl, g, E, hi, rfl, E20, rfl, by show m3.1 36 g = _; rw [e36, if_pos rfl]⟩)))
    · rw [Un_3, toN (by omega)]
      refine ⟨fun j hj => ⟨congrFun e35 j, ?_⟩, rfl, fun f hf => ?_, rfl, fun k hk => congrFun e92 k⟩
      · show cup (m3.1 36) g (-1) j = m.1 36 j
        unfold cup
        by_cases c : j = g
        · rw [if_pos c, c, y2]
        · rw [if_neg c, e36, if_neg c]
      · have hf : f < E + 1 - 1 := hf
        show m3.1 39 f = m.1 39 f ∧ m3.1 40 f = m.1 40 f
        rw [e39, e40, if_neg (by omega), if_neg (by omega)]
        exact ⟨rfl, rfl⟩
theorem A_apart {m : am_M} {E C : Nat} (h : RN m E C) (i : Int) : capok m i = mapok m i := by
  have hE := h.1.ever.1
  unfold capok mapok cfi
  by_cases b : 0 ≤ i ∧ i < 60
  · obtain ⟨g, rfl⟩ : ∃ n : Nat, i = (n : Int) := ⟨i.toNat, by omega⟩
    have hi : g < 60 := by omega
    rw [if_pos b, Int.toNat_natCast, h.1.joined g hi]
    rcases h.1.joins g hi with z | ⟨f, hf, z, _⟩
    · rw [z, decide_eq_true (show (-1 : Int32) = -1 from rfl)]
      cases msi m (g : Int) <;> rfl
    · have ms : msi m (g : Int) = true := by
        rw [← h.si hi]
        exact h.jsg hi (fun w => iIn (by omega) (z.symm.trans w))
      have cb := cst_b m (f : Int)
      have st := h.st hf
      have o := h.1.outs f hf
      have ct : 0 < fb_ct (fun j => decide (m.1 36 j = iI (f : Int))) 60 := fb_ct_pos.mpr ⟨g, hi, decide_eq_true z⟩
      rw [if_pos ct] at o
      rw [z, ms, decide_eq_false (iIn (show f < 21 by omega)), iI_to (by omega) (by omega), Int.toNat_natCast, o.2]
      rw [o.2] at st
      by_cases w : m.1 39 f = 0
      · rw [if_pos w] at st ⊢
        have := (iI_eq (b := 0) (by omega) (by omega) (by omega) (by omega)).mp st
        rw [this]
        rfl
      · rw [if_neg w] at st ⊢
        have := (iI_eq (b := 1) (by omega) (by omega) (by omega) (by omega)).mp st
        rw [this]
        rfl
  · have e2 : msi m i = false := decide_eq_false (fun z => b ⟨z.1, by omega⟩)
    rw [if_neg b, e2]
    rfl
theorem P_apart {m : am_M} (hI : Inv m) (i : Int) (hbi : -2147483648 ≤ i ∧ i ≤ 2147483647) : Pr 127 [some (.ref 3), some (.int (iI i)), none] 197 [some (.ref 109), some (.int (iI i)), none] m := by
  obtain ⟨n, E, C, tp, sz, lt, i1, i2, i3, i4, i5, i6, i7, i8, i9⟩ := id hI
  have hE := i4.1.ever
  have hC := i4.1.crews
  have h9 := i9
  obtain ⟨t1, t2, t3, t4, t5, t6, t7, _⟩ := h9
  have gd := A_apart i4 i
  have hJ : ∀ j, j < 60 → m.1 115 (180 + j) = -1 ∨ (0 ≤ (m.1 115 (180 + j)).toInt ∧ (m.1 115 (180 + j)).toInt < 20) := fun j hj => by
    rw [i4.1.joined j hj]
    exact i4.jb j hj
  refine S_capart m _ i4.bk i4.js i4.jb tp sz t1 t2 t4 t5 i hbi (fun z => ?_) (fun z z1 z2 f f20 jf m0 m1 rr k1 => ?_)
  · rw [gd] at z
    exact S_mapart m _ lt sz t3 t2 t7 t6 hJ i hbi (fun _ => ⟨rfl, ⟨_, rfl⟩, hI⟩) (fun w => by rw [z] at w; cases w)
  · rw [gd] at z
    obtain ⟨g, rfl⟩ : ∃ n : Nat, i = (n : Int) := ⟨i.toNat, by omega⟩
    have hi : g < 60 := by omega
    rw [Int.toNat_natCast] at rr jf
    have fE : f < E := by
      rcases i4.1.joins g hi with y | ⟨f', hf', y, _⟩
      · exact absurd (jf.symm.trans y) (iIn (by omega))
      · have := iIi (f := f) (g := f') (by omega) (by omega) (jf.symm.trans y)
        omega
    have zz := z
    unfold mapok at zz
    have y3 := (Bool.and_eq_true_iff.mp (Bool.and_eq_true_iff.mp zz).2).2
    rw [Int.toNat_natCast, i4.1.joined g hi, jf, iI_to (by omega) (by omega), Int.toNat_natCast] at y3
    have w0 : m.1 39 f = 0 ∧ m.1 115 (300 + f) = 0 := by
      have o := i4.1.outs f fE
      rw [if_pos (fb_ct_pos.mpr ⟨g, hi, decide_eq_true jf⟩)] at o
      by_cases w : m.1 39 f = 0
      · rw [if_pos w] at o
        exact ⟨w, o.2⟩
      · rw [if_neg w] at o
        rw [o.2] at y3
        cases y3
    have ar0 : Ar (36 :: TP) m (am_pI m 36 g (-1)) := (Ar.rf (36 :: TP) m).pI (by decide) g (-1)
    have gk : Gr (36 :: TP) m m0 := Gr.ar (ar0.tr ((rr.ar f20).sub (fun a z => List.mem_cons_of_mem _ z)))
    have e115 := (k1.fr gk i8 115 (by decide) (by decide) (by decide)).1
    have e116 := (k1.fr gk i8 116 (by decide) (by decide) (by decide)).2
    have e109 := (k1.fr gk i8 109 (by decide) (by decide) (by decide)).1
    have em : mapok m1 (g : Int) = mapok m (g : Int) := by
      unfold mapok msi
      rw [e115]
    refine S_mapart m1 _ lt sz t3 t2 (by rw [e109]; exact t7) (by rw [e109]; exact t6) (by rw [e115]; exact hJ) (g : Int) hbi (fun w => by rw [em, z] at w; cases w) (fun _ f' f'20 jf' m2 f2 ac s => ⟨rfl, ⟨_, rfl⟩, ?_⟩)
    rw [Int.toNat_natCast, e115, i4.1.joined g hi, jf] at jf'
    have ff : f = f' := iIi (by omega) (by omega) jf'
    subst ff
    have f2' : Fm [115, 116, 117, 118, 119, 124, 125] [6, 7, 8, 13, 14] m1 m2 := f2.sub (by decide) (by decide)
    have ar := k1.ar f2'
    have gT := gr_act gk ar
    have hT : ∀ a, a ∈ (36 :: TP) ++ UU → a < 133 := by decide
    have r0 : RC m2 (core m E C) (m.1 115) (m.2.1 116) := RC.gr gT i8 hT (by decide) i4.1
    have e35 : (fun i => am_gR YL m2 35 i) = fun i => am_gR YL m 35 i := funext fun i => gT.R (by omega) (by decide) i
    have e39 : m2.1 39 = m.1 39 := gT.I (by omega) (by decide)
    have e40 : m2.1 40 = m.1 40 := gT.I (by omega) (by decide)
    have e92 : m2.1 92 = m.1 92 := gT.I (by omega) (by decide)
    have e116' : m2.2.1 116 = m.2.1 116 := by rw [f2.2.1 116 (by decide), e116]
    have e36' : ∀ j, m2.1 36 j = (am_pI m 36 g (-1)).1 36 j := fun j => by rw [ar.I (by decide), (rr.ar f20).I (by decide)]
    have e36 : ∀ j, m2.1 36 j = if j = g then -1 else m.1 36 j := fun j => by rw [e36', am_pI_at]
    have ec : fb_ct (mjn (am_pI m1 115 (180 + g) (-1)) (iI (f : Int))) 60 = fb_ct (fun j => decide (m2.1 36 j = iI (f : Int))) 60 := fb_ct_cong (fun k hk => by
      unfold mjn msi
      rw [am_pI_at, am_pI_at, if_neg (show ¬ ((k : Int)).toNat = 180 + g by omega), e36, e115]
      by_cases c : k = g
      · rw [if_pos (by omega), if_pos c, show decide ((-1 : Int32) = iI (f : Int)) = false from decide_eq_false (fun w => iIn (show f < 21 by omega) w.symm), Bool.and_false]
      · rw [if_neg (by omega), if_neg c]
        exact i4.jn hk f20)
    rw [Int.toNat_natCast, ec, e115] at s
    have ne : ∀ f', f' < 20 → f' ≠ f → ∀ k, (m2.1 36 k = iI (f' : Int) ↔ m.1 36 k = iI (f' : Int)) := by
      intro f' hf hfg k
      rw [e36]
      by_cases c : k = g
      · rw [if_pos c, c, jf]
        exact ⟨fun z => absurd z.symm (iIn (by omega)), fun z => absurd (iIi (by omega) (by omega) z) (fun w => hfg w.symm)⟩
      · rw [if_neg c]
    have cm : ∀ f', f' < 20 → f' ≠ f → fb_ct (fun j => decide (m2.1 36 j = iI (f' : Int))) 60 = fb_ct (fun j => decide (m.1 36 j = iI (f' : Int))) 60 := fun f' hf hfg => fb_ct_cong (fun k _ => decide_eq_decide.mpr (ne f' hf hfg k))
    have sn : ∀ k, ¬ k = 180 + g → ¬ k = 300 + f → m2.1 115 k = m.1 115 k := fun k h1 h2 => by
      rw [s, if_neg h1, if_neg (fun w => h2 w.1)]
    have rn : RN m2 E C := by
      have rt := rr.tail f20 ar gT hT ar0 (by decide) (by decide) i4.bk e35
      have tl := i4.tail gT hT f (E' := E) (fun i _ _ => congrFun e35 i) (fun f' hf hfg k _ => ne f' (by omega) hfg k) (fun f' hf hfg => by rw [ar.I (by decide), rr.2.1, if_neg hfg, am_pI_ne (by decide)]) (fun f' hf hfg => by
        rw [ar.J (fun z => by simp only [UU, List.mem_cons, List.not_mem_nil, or_false] at z; omega), rr.1.J (fun z => by simp only [List.mem_cons, List.not_mem_nil, or_false] at z; omega)]
        rfl) (fun f' hf _ => hf) (fun _ => rt.2.1) (fun _ => rt.2.2)
      refine ⟨?_, by rw [gT.I (by omega) (by decide)]; exact i4.2.1, by rw [gT.I (by omega) (by decide)]; exact i4.2.2.1, ?_, tl.1, tl.2⟩
      · rw [e35, e39, e40, e92, e116']
        refine ⟨fun j hj => (r0.places j hj).s (fun k hk => sn k (by omega) (by omega)) (fun _ _ => rfl), fun j hj => ?_, fun j hj => ?_, ⟨hE.1, by rw [sn _ (by omega) (by omega)]; exact hE.2⟩, fun f' hf => ?_, fun f' hf => by rw [sn _ (by omega) (by omega)]; exact r0.again f' hf, ⟨hC.1, by rw [sn _ (by omega) (by omega)]; exact hC.2⟩, fun k hk => by rw [sn _ (by omega) (by omega)]; exact r0.stands k hk, fun f' hf hc => ?_⟩
        · rw [e36]
          by_cases c : j = g
          · rw [if_pos c, s, if_pos (by omega)]
          · rw [if_neg c, sn _ (by omega) (by omega)]
            exact r0.joined j hj
        · rw [e36]
          by_cases c : j = g
          · rw [if_pos c]
            exact Or.inl rfl
          · rw [if_neg c]
            exact r0.joins j hj
        · by_cases c : f' = f
          · subst c
            refine ⟨(r0.outs f' hf).1, ?_⟩
            rw [s, if_neg (by omega), if_pos w0.1]
            by_cases d : fb_ct (fun j => decide (m2.1 36 j = iI (f' : Int))) 60 = 0
            · rw [if_pos ⟨rfl, d⟩, if_neg (by omega)]
            · rw [if_neg (fun w => d w.2), if_pos (by omega)]
              exact w0.2
          · rw [sn _ (by omega) (by omega), cm f' (by omega) c]
            exact r0.outs f' hf
        · by_cases c : f' = f
          · subst c
            obtain ⟨q, hq, w⟩ := i4.1.patch f' hf (fb_ct_pos.mpr ⟨g, hi, decide_eq_true jf⟩)
            refine ⟨q, hq, fun j hj ej => w j hj ?_⟩
            rw [e36] at ej
            by_cases cj : j = g
            · rw [if_pos cj] at ej
              exact absurd ej.symm (iIn (by omega))
            · rw [if_neg cj] at ej
              exact ej
          · rw [cm f' (by omega) c] at hc
            obtain ⟨q, hq, w⟩ := i4.1.patch f' hf hc
            exact ⟨q, hq, fun j hj ej => w j hj ((ne f' (by omega) c j).mp ej)⟩
      · rw [gT.I (by omega) (by decide), show (fun i => (am_gR YL m2 35 i).isSome) = fun i => (am_gR YL m 35 i).isSome from funext fun i => by rw [show am_gR YL m2 35 i = am_gR YL m 35 i from congrFun e35 i]]
        exact i4.2.2.2.1
    refine Inv.act (n := n) (E' := E) (C' := C) i1 i2 i4 i5 i6 i7 i8 i9 gk (by decide) (by decide) k1 f2' ac (i3.act i8 gk (by decide) ar (by rw [f2.2.2.1 5 (by decide), e109])) rn ?_ ?_
    · exact Or.inr (Or.inr (Or.inr (Or.inr (Or.inl ⟨rfl, g, f, hi, rfl, rfl, fE, by show m2.1 36 g = _; rw [e36, if_pos rfl]⟩))))
    · rw [Un_4, toN (by omega)]
      refine ⟨fun j hj => ⟨congrFun e35 j, ?_⟩, rfl, fun f hf => ⟨congrFun e39 f, congrFun e40 f⟩, rfl, fun k hk => congrFun e92 k⟩
      show cup (m2.1 36) g (iI (f : Int)) j = m.1 36 j
      unfold cup
      by_cases c : j = g
      · rw [if_pos c, c, jf]
      · rw [if_neg c, e36, if_neg c]
