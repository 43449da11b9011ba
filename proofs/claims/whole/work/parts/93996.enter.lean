/-! ===== remark, report, sight: one answer ===== -/
def Pb (mc ms mi : Nat) (L : am_L) (mj : Nat) (K : am_L) (m : am_M) : Prop := am_WP YL mi mc ms 0 L [] m (fun r m1 => am_WP YL mj 0 0 0 K [] m1 (fun r2 m2 => r2 = r ∧ (∃ v, r = some (.int v)) ∧ Inv m2))
def TE : List Nat := [12, 19, 21, 23, 25, 27, 29, 31, 33]
theorem A_free {m : am_M} {E C : Nat} (h : RN m E C) : cfr m = mfr m := by
  unfold cfr mfr
  refine kth_cong (fun i hi => ?_)
  have p := h.1.places i hi
  cases hr : am_gR YL m 35 i with
  | none =>
    rw [hr] at p
    have p : m.1 115 i = 6 := p
    rw [decide_eq_true p]
    rfl
  | some e =>
    rw [hr] at p
    obtain ⟨_, p1, p2, p3, _⟩ := p
    rw [p1, decide_eq_false (fun z => by rw [z] at p3; exact absurd p3 (by decide))]
    rfl
theorem enter_inv {T0 : List Nat} {m ma m1 m2 : am_M} {n E C tp sz lt : Nat} (i1 : Wd m) (i2 : LK m) (i4 : RN m E C) (i5 : WC m) (i6 : ∀ f, f < 20 → m.1 93 f = m.1 126 f) (i7 : ∀ i, i < 60 → m.1 37 i = m.1 132 i) (i8 : 130 ≤ am_n m) (i9 : Hist m tp sz lt (core m E C))
    (ga : Gr T0 m ma) (hT0 : ∀ a, a ∈ T0 → a ∈ TE) {i : Nat} (hi : i < 60) (no : am_gR YL m 35 i = none) {e : Nat} {k v t r : Int32} {o : Option Nat} (eok : EnOK ma e) (ent : Ent ma e k v t r o) (ko : (o = none ↔ k = 5)) (kb : 0 ≤ k.toInt ∧ k.toInt ≤ 5)
    (k1 : Kept (am_pR (am_pI ma 34 3 (iI ((fb_ct (fun i => (am_gR YL m 35 i).isSome) 60 : Int) + 1))) 35 i (some e)) m1 tp sz 0 (iI (i : Int)) (-1) none)
    (f2 : Fm [115, 116, 117, 118] [6, 7, 8, 13, 14] m1 m2) (ac : Acted m1 m2 lt sz) (md : Made m1 m2 i k v t r) (zz : ∀ j, ¬ (4 * i ≤ j ∧ j < 4 * i + 4) → m2.2.1 116 j = m1.2.1 116 j)
    (hw : ∀ s, o = some s → ∀ q, q < 256 → wb (ma.2.1 (s + 1)) q = wb (mv m2 116 i) q ∧ (wb (ma.2.1 (s + 1)) q = true → wb (m.2.1 8) q = true)) (tw : Tw m2 n) : Inv m2 := by
  have hE := i4.1.ever
  have hC := i4.1.crews
  have jg : m.1 36 i = -1 := by
    rcases i4.1.joins i hi with w | ⟨f, hf, y, e', s', h1, h2⟩
    · exact w
    · have h1 : am_gR YL m 35 i = some e' := h1
      rw [no] at h1
      cases h1
  have arK : Ar [34, 35] ma (am_pR (am_pI ma 34 3 (iI ((fb_ct (fun i => (am_gR YL m 35 i).isSome) 60 : Int) + 1))) 35 i (some e)) := ((Ar.rf _ ma).pI (by decide) _ _).pR (by decide) _ _
  have gk : Gr (34 :: 35 :: TE) m (am_pR (am_pI ma 34 3 (iI ((fb_ct (fun i => (am_gR YL m 35 i).isSome) 60 : Int) + 1))) 35 i (some e)) := (ga.sub (fun a z => List.mem_cons_of_mem _ (List.mem_cons_of_mem _ (hT0 a z)))).tr (Gr.ar (arK.sub (by decide)))
  have f2' : Fm [115, 116, 117, 118, 119, 124, 125] [6, 7, 8, 13, 14] m1 m2 := f2.sub (by decide) (by decide)
  have ar := k1.ar f2'
  have gT := gr_act gk ar
  have hT : ∀ a, a ∈ (34 :: 35 :: TE) ++ UU → a < 133 := by decide
  have arA : Ar (34 :: 35 :: UU) ma m2 := (arK.sub (by decide)).tr (ar.sub (by decide))
  have hA : ∀ a, a ∈ 34 :: 35 :: UU → a < 133 := by decide
  have r0 : RC m2 (core m E C) (m.1 115) (m.2.1 116) := RC.gr gT i8 hT (by decide) i4.1
  have e115 := (k1.fr gk i8 115 (by decide) (by decide) (by decide)).1
  have e116 := (k1.fr gk i8 116 (by decide) (by decide) (by decide)).2
  have s : ∀ j, m2.1 115 j = if j = 240 + i then r else if j = 180 + i then -1 else if j = 120 + i then t else if j = 60 + i then v else if j = i then k else m.1 115 j := fun j => by rw [md, e115]
  have sn : ∀ j, ¬ j = 240 + i → ¬ j = 180 + i → ¬ j = 120 + i → ¬ j = 60 + i → ¬ j = i → m2.1 115 j = m.1 115 j := fun j h1 h2 h3 h4 h5 => by rw [s, if_neg h1, if_neg h2, if_neg h3, if_neg h4, if_neg h5]
  have z116 : ∀ j, ¬ (4 * i ≤ j ∧ j < 4 * i + 4) → m2.2.1 116 j = m.2.1 116 j := fun j hj => by rw [zz j hj, e116]
  have e35 : ∀ j, am_gR YL m2 35 j = if j = i then some e else am_gR YL m 35 j := fun j => by
    rw [ar.R (by decide), ← ga.R (a := 35) (by omega) (fun z => absurd (hT0 35 z) (by decide)) j]
    exact am_pR_at _ 35 i j (some e)
  have e36 : m2.1 36 = m.1 36 := gT.I (by omega) (by decide)
  have e39 : m2.1 39 = m.1 39 := gT.I (by omega) (by decide)
  have e40 : m2.1 40 = m.1 40 := gT.I (by omega) (by decide)
  have e92 : m2.1 92 = m.1 92 := gT.I (by omega) (by decide)
  have e8 : m2.2.1 8 = m.2.1 8 := gT.J (by omega) (by decide)
  have eb := eok.2.1
  have rn : RN m2 E C := by
    have tl := i4.tail gT hT 20 (E' := E) (fun j _ y => by rw [e35, if_neg (fun w => y (by rw [w]; exact jg))]) (fun f _ _ k _ => by rw [e36]) (fun f _ _ => by rw [gT.I (by omega) (by decide)]) (fun f hf _ => gT.J (by omega) (fun z => by simp only [UU, TE, List.mem_append, List.mem_cons, List.not_mem_nil, or_false] at z; omega)) (fun f hf _ => hf) (fun w => absurd w (by omega)) (fun w => absurd w (by omega))
    refine ⟨?_, by rw [gT.I (by omega) (by decide)]; exact i4.2.1, by rw [gT.I (by omega) (by decide)]; exact i4.2.2.1, ?_, tl.1, tl.2⟩
    · rw [e36, e39, e40, e92]
      refine ⟨fun j hj => ?_, fun j hj => ?_, fun j hj => ?_, ⟨hE.1, by rw [sn _ (by omega) (by omega) (by omega) (by omega) (by omega)]; exact hE.2⟩, fun f hf => by rw [sn _ (by omega) (by omega) (by omega) (by omega) (by omega)]; exact r0.outs f hf, fun f hf => by rw [sn _ (by omega) (by omega) (by omega) (by omega) (by omega)]; exact r0.again f hf, ⟨hC.1, by rw [sn _ (by omega) (by omega) (by omega) (by omega) (by omega)]; exact hC.2⟩, fun x hx => by rw [sn _ (by omega) (by omega) (by omega) (by omega) (by omega)]; exact r0.stands x hx, fun f hf hc => ?_⟩
      · show PlOK m2 (am_gR YL m2 35 j) (m2.1 115) (m2.2.1 116) j
        rw [e35]
        by_cases c : j = i
        · rw [if_pos c, c]
          obtain ⟨n0, n1, n2, n3, n4⟩ := ent
          have I : m2.1 e = ma.1 e := arA.I (fun z => by have := hA e z; omega)
          have R : am_gR YL m2 e 4 = o := by rw [arA.R (fun z => by have := hA e z; omega)]; exact n4
          show EnOK m2 e ∧ m2.1 115 i = m2.1 e 0 ∧ 0 ≤ (m2.1 e 0).toInt ∧ (m2.1 e 0).toInt ≤ 5 ∧ m2.1 115 (60 + i) = m2.1 e 1 ∧ m2.1 115 (120 + i) = m2.1 e 2 ∧ m2.1 115 (240 + i) = m2.1 e 3 ∧ (am_gR YL m2 e 4 = none ↔ m2.1 e 0 = 5) ∧ ∀ s, am_gR YL m2 e 4 = some s → ∀ q, q < 256 → wb (m2.2.1 (s + 1)) q = wb (fun w => m2.2.1 116 (4 * i + w)) q ∧ (wb (m2.2.1 (s + 1)) q = true → wb (m2.2.1 8) q = true)
          rw [I, R, n0, n1, n2, n3]
          refine ⟨eok.fr arA hA, ?_, kb.1, kb.2, ?_, ?_, ?_, ko, fun s' hs q hq => ?_⟩
          · rw [s, if_neg (by omega), if_neg (by omega), if_neg (by omega), if_neg (by omega), if_pos rfl]
          · rw [s, if_neg (by omega), if_neg (by omega), if_neg (by omega), if_pos rfl]
          · rw [s, if_neg (by omega), if_neg (by omega), if_pos rfl]
          · rw [s, if_pos rfl]
          · have sb := eok.2.2.2 s' (by rw [n4]; exact hs)
            rw [arA.J (fun z => by have := hA _ z; omega), e8]
            exact hw s' hs q hq
        · rw [if_neg c]
          exact (r0.places j hj).s (fun x hx => sn x (by omega) (by omega) (by omega) (by omega) (by omega)) (fun w hw' => z116 _ (by omega))
      · by_cases c : j = i
        · rw [s, if_neg (by omega), if_pos (by omega), c, jg]
        · rw [sn _ (by omega) (by omega) (by omega) (by omega) (by omega)]
          exact r0.joined j hj
      · rcases r0.joins j hj with w | ⟨f, hf, y, e', s', h1, h2⟩
        · exact Or.inl w
        · refine Or.inr ⟨f, hf, y, e', s', ?_, h2⟩
          show am_gR YL m2 35 j = some e'
          rw [e35, if_neg (fun w => ?_)]
          · exact h1
          · have hf : f < E := hf
            rw [w] at y
            exact iIn (by omega) (y.symm.trans jg)
      · obtain ⟨q, hq, w⟩ := i4.1.patch f hf hc
        refine ⟨q, hq, fun j hj ej => ?_⟩
        have nj : j ≠ i := fun c => iIn (show f < 21 by omega) (by rw [← ej, c]; exact jg)
        rw [wb4 (g := fun w => m.2.1 116 (4 * j + w)) (fun x hx => z116 _ (by omega)) hq]
        exact w j hj ej
    · have cu := fb_ct_upd (fun j => (am_gR YL m 35 j).isSome) true hi
      have e1 : fb_ct (fun i => (am_gR YL m2 35 i).isSome) 60 = fb_ct (fun k => if k = i then true else (am_gR YL m 35 k).isSome) 60 := fb_ct_cong (fun k _ => by
        rw [e35]
        by_cases c : k = i
        · rw [if_pos c, if_pos c]; rfl
        · rw [if_neg c, if_neg c])
      have e2 : ¬ (am_gR YL m 35 i).isSome = true := by rw [no]; decide
      rw [if_neg e2, if_pos rfl] at cu
      have cv : fb_ct (fun i => (am_gR YL m2 35 i).isSome) 60 = fb_ct (fun j => (am_gR YL m 35 j).isSome) 60 + 1 := by
        rw [e1]
        exact cu
      rw [cv, ar.I (by decide)]
      show (am_pI ma 34 3 _).1 34 3 = _
      rw [am_pI_at, if_pos rfl]
      congr 1
  refine Inv.act (n := n) (E' := E) (C' := C) i1 i2 i4 i5 i6 i7 i8 i9 gk (by decide) (by decide) k1 f2' ac tw rn ?_ ?_
  · exact Or.inl ⟨rfl, i, hi, rfl, e, by show am_gR YL m2 35 i = some e; rw [e35, if_pos rfl]⟩
  · rw [Un_0, toN (by omega)]
    refine ⟨fun j hj => ⟨?_, congrFun e36 j⟩, rfl, fun f hf => ⟨congrFun e39 f, congrFun e40 f⟩, rfl, fun k hk => congrFun e92 k⟩
    show cup (fun i => am_gR YL m2 35 i) i none j = am_gR YL m 35 j
    unfold cup
    by_cases c : j = i
    · rw [if_pos c, c, no]
    · rw [if_neg c]
      show am_gR YL m2 35 j = am_gR YL m 35 j
      rw [e35, if_neg c]
theorem Tw.ent {m ma m1 m2 : am_M} {n tp sz i e : Nat} {v : Int32} {w : Int32} (i3 : Tw m n) (i8 : 130 ≤ am_n m) (ga : Gr [] m ma) (k1 : Kept (am_pR (am_pI ma 34 3 v) 35 i (some e)) m1 tp sz 0 w (-1) none) (f2 : Fm [115, 116, 117, 118] [6, 7, 8, 13, 14] m1 m2) : Tw m2 n ∧ Gr [34, 35] m (am_pR (am_pI ma 34 3 v) 35 i (some e)) := by
  have arK : Ar [34, 35] ma (am_pR (am_pI ma 34 3 v) 35 i (some e)) := ((Ar.rf _ ma).pI (by decide) _ _).pR (by decide) _ _
  have gk : Gr [34, 35] m (am_pR (am_pI ma 34 3 v) 35 i (some e)) := (ga.sub (fun a z => absurd z (by simp))).tr (Gr.ar arK)
  refine ⟨i3.act i8 gk (by decide) (k1.ar (f2.sub (by decide) (by decide))) ?_, gk⟩
  rw [f2.2.2.1 5 (by decide), (k1.fr gk i8 109 (by decide) (by decide) (by decide)).1]
theorem P_remark {m : am_M} (hI : Inv m) (v : Int32) : Pb 1 5 121 [some (.ref 3), some (.int v), none] 186 [some (.ref 109), some (.int v)] m := by
  obtain ⟨n, E, C, tp, sz, lt, i1, i2, i3, i4, i5, i6, i7, i8, i9⟩ := id hI
  have h9 := i9
  obtain ⟨t1, t2, t3, t4, t5, t6, t7, _⟩ := h9
  have fe := A_free i4
  refine S_cremark m _ i4.bk i8 _ i4.2.2.2.1 tp sz t1 t2 t4 t5 v (fun z => ?_) (fun i hi z no ma m1 e ga gn ge eok ent k1 => ?_)
  · rw [fe] at z
    exact S_mremark m _ lt sz t3 t2 t7 t6 v (fun _ => ⟨rfl, ⟨_, rfl⟩, hI⟩) (fun j hj w => by rw [z] at w; omega)
  · rw [fe] at z
    have arK : Ar [34, 35] ma (am_pR (am_pI ma 34 3 (iI ((fb_ct (fun i => (am_gR YL m 35 i).isSome) 60 : Int) + 1))) 35 i (some e)) := ((Ar.rf _ ma).pI (by decide) _ _).pR (by decide) _ _
    have gk : Gr [34, 35] m (am_pR (am_pI ma 34 3 (iI ((fb_ct (fun i => (am_gR YL m 35 i).isSome) 60 : Int) + 1))) 35 i (some e)) := (ga.sub (fun a z => absurd z (by simp))).tr (Gr.ar arK)
    have e115 := (k1.fr gk i8 115 (by decide) (by decide) (by decide)).1
    have e109 := (k1.fr gk i8 109 (by decide) (by decide) (by decide)).1
    have em : mfr m1 = mfr m := by
      unfold mfr
      rw [e115]
    refine S_mremark m1 _ lt sz t3 t2 (by rw [e109]; exact t7) (by rw [e109]; exact t6) v (fun w => by rw [em, z] at w; omega) (fun j hj w m2 f2 ac md zz => ?_)
    rw [em, z] at w
    have ij : i = j := by omega
    subst ij
    exact ⟨rfl, ⟨_, rfl⟩, enter_inv i1 i2 i4 i5 i6 i7 i8 i9 ga (fun a z => absurd z (by simp)) hi no eok ent ⟨fun _ => rfl, fun _ => rfl⟩ (by decide) k1 f2 ac md zz (fun s hs => by cases hs) (i3.ent i8 ga k1 f2).1⟩
theorem P_report {m : am_M} (hI : Inv m) (r c mi dn rt sd : Int) (hbr : -2147483648 ≤ r ∧ r ≤ 2147483647) (hbc : -2147483648 ≤ c ∧ c ≤ 2147483647) (hbmi : -2147483648 ≤ mi ∧ mi ≤ 2147483647) (hbdn : -2147483648 ≤ dn ∧ dn ≤ 2147483647) (hbrt : -2147483648 ≤ rt ∧ rt ≤ 2147483647) (hbsd : -2147483648 ≤ sd ∧ sd ≤ 2147483647) : Pb 3 10 120 [some (.ref 3), some (.int (iI r)), some (.int (iI c)), some (.int (iI mi)), some (.int (iI dn)), some (.int (iI rt)), some (.int (iI sd)), none, none, none] 185 [some (.ref 109), some (.int (iI r)), some (.int (iI c)), some (.int (iI mi)), some (.int (iI dn)), some (.int (iI rt)), some (.int (iI sd)), none] m := by
  obtain ⟨n, E, C, tp, sz, lt, i1, i2, i3, i4, i5, i6, i7, i8, i9⟩ := id hI
  have h9 := i9
  obtain ⟨t1, t2, t3, t4, t5, t6, t7, _⟩ := h9
  have fe := A_free i4
  have gd : (cth m r c && lok mi dn rt sd) = (mth m r c && lok mi dn rt sd) := by rw [i1.th]
  refine S_creport m _ i4.bk i8 _ i4.2.2.2.1 tp sz t1 t2 t4 t5 r c mi dn rt sd hbr hbc hbmi hbdn hbrt hbsd (fun z => ?_) (fun zk i hi z no ma m1 e s ga gn ge eok ent hw k1 => ?_)
  · rw [fe, gd] at z
    exact S_mreport m _ i1.2.1 lt sz t3 t2 t7 t6 r c mi dn rt sd hbr hbc hbmi hbdn hbrt hbsd (fun _ => ⟨rfl, ⟨_, rfl⟩, hI⟩) (fun w1 j hj w => by
      rcases z with z | z
      · rw [z] at w1; cases w1
      · rw [z] at w; omega)
  · rw [fe] at z
    rw [gd] at zk
    have hb := mth_b i1.2.1.2.2.2 (Bool.and_eq_true_iff.mp zk).1
    obtain ⟨tw', gk⟩ : (∀ m2, Fm [115, 116, 117, 118] [6, 7, 8, 13, 14] m1 m2 → Tw m2 n) ∧ Gr [34, 35] m (am_pR (am_pI ma 34 3 (iI ((fb_ct (fun i => (am_gR YL m 35 i).isSome) 60 : Int) + 1))) 35 i (some e)) := ⟨fun m2 f2 => (i3.ent i8 ga k1 f2).1, (i3.ent i8 ga k1 (Fm.rf _ _ m1)).2⟩
    have e115 := (k1.fr gk i8 115 (by decide) (by decide) (by decide)).1
    have e109 := (k1.fr gk i8 109 (by decide) (by decide) (by decide)).1
    have e110 := (k1.fr gk i8 110 (by decide) (by decide) (by decide)).1
    have e111 := (k1.fr gk i8 111 (by decide) (by decide) (by decide)).1
    have W1 : Wd m1 := i1.fe (k1.fr gk i8 5 (by decide) (by decide) (by decide)).1 (k1.fr gk i8 6 (by decide) (by decide) (by decide)).1 (k1.fr gk i8 8 (by decide) (by decide) (by decide)).2 e110 e111 (k1.fr gk i8 112 (by decide) (by decide) (by decide)).1
    have em : mfr m1 = mfr m := by
      unfold mfr
      rw [e115]
    have et : mth m1 r c = mth m r c := by
      unfold mth
      rw [e110]
    refine S_mreport m1 _ W1.2.1 lt sz t3 t2 (by rw [e109]; exact t7) (by rw [e109]; exact t6) r c mi dn rt sd hbr hbc hbmi hbdn hbrt hbsd (fun w => ?_) (fun _ j hj w m2 f2 ac md hm zz => ?_)
    · exfalso
      rw [et, em, zk, z] at w
      rcases w with w | w
      · cases w
      · omega
    rw [em, z] at w
    have ij : i = j := by omega
    subst ij
    refine ⟨rfl, ⟨_, rfl⟩, enter_inv i1 i2 i4 i5 i6 i7 i8 i9 ga (fun a z => absurd z (by simp)) hi no eok ent ⟨fun w => (by cases w), fun w => absurd w (by decide)⟩ (by decide) k1 f2 ac md zz (fun s' hs q hq => ?_) (tw' m2 f2)⟩
    cases hs
    rw [hw q hq, hm q hq]
    refine ⟨?_, fun w => ?_⟩
    · rw [A_lookR i1 hq]
      unfold mlk mf mth
      rw [e110, e111]
    · unfold fcone at w
      exact (Bool.and_eq_true_iff.mp (Bool.and_eq_true_iff.mp w).2).1
theorem P_sight {m : am_M} (hI : Inv m) (kd tw mi dn rt sd rc b : Int) (hbkd : -2147483648 ≤ kd ∧ kd ≤ 2147483647) (hbtw : -2147483648 ≤ tw ∧ tw ≤ 2147483647) (hbmi : -2147483648 ≤ mi ∧ mi ≤ 2147483647) (hbdn : -2147483648 ≤ dn ∧ dn ≤ 2147483647) (hbrt : -2147483648 ≤ rt ∧ rt ≤ 2147483647) (hbsd : -2147483648 ≤ sd ∧ sd ≤ 2147483647) (hbrc : -2147483648 ≤ rc ∧ rc ≤ 2147483647) (hbb : -2147483648 ≤ b ∧ b ≤ 2147483647) : Pb 3 10 119 [some (.ref 3), some (.int (iI kd)), some (.int (iI tw)), some (.int (iI mi)), some (.int (iI dn)), some (.int (iI rt)), some (.int (iI sd)), some (.int (iI rc)), some (.int (iI b)), none, none, none] 184 [some (.ref 109), some (.int (iI kd)), some (.int (iI tw)), some (.int (iI mi)), some (.int (iI dn)), some (.int (iI rt)), some (.int (iI sd)), some (.int (iI rc)), some (.int (iI b)), none, none, none] m := by
  obtain ⟨n, E, C, tp, sz, lt, i1, i2, i3, i4, i5, i6, i7, i8, i9⟩ := id hI
  have h9 := i9
  obtain ⟨t1, t2, t3, t4, t5, t6, t7, _⟩ := h9
  have fe := A_free i4
  have n8 := i3.2.1.1
  have gd : csok m n kd tw mi dn rt sd rc b = msok m kd tw mi dn rt sd rc b := by
    unfold csok msok rtok
    rw [i3.2.1.2.1, iI_to (by omega) (by omega)]
  refine S_csight m _ i4.bk i1.1 i8 n i3.1.1 i3.1.2.1 _ i4.2.2.2.1 tp sz t1 t2 t4 t5 kd tw mi dn rt sd rc b hbkd hbtw hbmi hbdn hbrt hbsd hbrc hbb (fun z => ?_) (fun zk i hi z no ma m1 e s ga tk gn ge eok ent hw k1 => ?_)
  · rw [fe, gd] at z
    exact S_msight m _ i1.2.1 n i3.2.1 lt sz t3 t2 t7 t6 kd tw mi dn rt sd rc b hbkd hbtw hbmi hbdn hbrt hbsd hbrc hbb (fun _ => ⟨rfl, ⟨_, rfl⟩, hI⟩) (fun w1 j hj w => by
      rcases z with z | z
      · rw [z] at w1; cases w1
      · rw [z] at w; omega)
  · rw [fe] at z
    have zc := zk
    rw [gd] at zk
    unfold csok at zc
    obtain ⟨y1, zc⟩ := Bool.and_eq_true_iff.mp zc
    obtain ⟨y2, zc⟩ := Bool.and_eq_true_iff.mp zc
    obtain ⟨y3, y4⟩ := Bool.and_eq_true_iff.mp zc
    have y1 := of_decide_eq_true y1
    have y2 := of_decide_eq_true y2
    unfold rtok at y4
    have rb := mrc_b (Bool.and_eq_true_iff.mp y4).1 (Bool.and_eq_true_iff.mp y4).2
    have tn : tw.toNat < n := by omega
    have hT0 : ∀ a, a ∈ [12, 19 + 2 * tw.toNat] → a ∈ TE := by
      have : ∀ t, t < 8 → ∀ a, a ∈ [12, 19 + 2 * t] → a ∈ TE := by decide
      exact this _ (by omega)
    have arK : Ar [34, 35] ma (am_pR (am_pI ma 34 3 (iI ((fb_ct (fun i => (am_gR YL m 35 i).isSome) 60 : Int) + 1))) 35 i (some e)) := ((Ar.rf _ ma).pI (by decide) _ _).pR (by decide) _ _
    have gk : Gr (34 :: 35 :: TE) m (am_pR (am_pI ma 34 3 (iI ((fb_ct (fun i => (am_gR YL m 35 i).isSome) 60 : Int) + 1))) 35 i (some e)) := (ga.sub (fun a z => List.mem_cons_of_mem _ (List.mem_cons_of_mem _ (hT0 a z)))).tr (Gr.ar (arK.sub (by decide)))
    have e115 := (k1.fr gk i8 115 (by decide) (by decide) (by decide)).1
    have e109 := (k1.fr gk i8 109 (by decide) (by decide) (by decide)).1
    have e110 := (k1.fr gk i8 110 (by decide) (by decide) (by decide)).1
    have e111 := (k1.fr gk i8 111 (by decide) (by decide) (by decide)).1
    have e113 := (k1.fr gk i8 113 (by decide) (by decide) (by decide)).1
    have e114 := (k1.fr gk i8 114 (by decide) (by decide) (by decide)).1
    have W1 : Wd m1 := i1.fe (k1.fr gk i8 5 (by decide) (by decide) (by decide)).1 (k1.fr gk i8 6 (by decide) (by decide) (by decide)).1 (k1.fr gk i8 8 (by decide) (by decide) (by decide)).2 e110 e111 (k1.fr gk i8 112 (by decide) (by decide) (by decide)).1
    have em : mfr m1 = mfr m := by
      unfold mfr
      rw [e115]
    have eo : msok m1 kd tw mi dn rt sd rc b = msok m kd tw mi dn rt sd rc b := by
      unfold msok
      rw [e109]
    have tw1 : mtw m1 n := by
      have := i3.2.1
      unfold mtw at this ⊢
      rw [e109, e113, e114]
      exact this
    refine S_msight m1 _ W1.2.1 n tw1 lt sz t3 t2 (by rw [e109]; exact t7) (by rw [e109]; exact t6) kd tw mi dn rt sd rc b hbkd hbtw hbmi hbdn hbrt hbsd hbrc hbb (fun w => ?_) (fun _ j hj w m2 f2 ac md hm zz => ?_)
    · exfalso
      rw [eo, em, zk, z] at w
      rcases w with w | w
      · cases w
      · omega
    rw [em, z] at w
    have ij : i = j := by omega
    subst ij
    have hT2 : Tw m2 n := by
      have ar := k1.ar (f2.sub (by decide) (by decide))
      have arA : Ar (34 :: 35 :: UU) ma m2 := (arK.sub (by decide)).tr (ar.sub (by decide))
      have g5 : ma.1 5 = m.1 5 := ga.I (by omega) (fun z => absurd (hT0 5 z) (by decide))
      have g8 : ma.2.1 8 = m.2.1 8 := ga.J (by omega) (fun z => absurd (hT0 8 z) (by decide))
      have g9 : ma.1 9 = m.1 9 := ga.I (by omega) (fun z => absurd (hT0 9 z) (by decide))
      have g10 : ma.1 10 = m.1 10 := ga.I (by omega) (fun z => absurd (hT0 10 z) (by decide))
      have g11 : ma.1 11 = m.1 11 := ga.I (by omega) (fun z => absurd (hT0 11 z) (by decide))
      have g17 : ma.2.1 17 = m.2.1 17 := ga.J (by omega) (fun z => absurd (hT0 17 z) (by decide))
      have a5 : m2.1 5 = ma.1 5 := arA.I (by decide)
      have a8 : m2.2.1 8 = ma.2.1 8 := arA.J (by decide)
      have a9 : m2.1 9 = ma.1 9 := arA.I (by decide)
      have a10 : m2.1 10 = ma.1 10 := arA.I (by decide)
      have a11 : m2.1 11 = ma.1 11 := arA.I (by decide)
      have a17 : m2.2.1 17 = ma.2.1 17 := arA.J (by decide)
      refine ⟨i3.1.fr2 (a5.trans g5) (a8.trans g8) (a9.trans g9) (a10.trans g10) (a11.trans g11) (a17.trans g17) (fun t ht hz q hq => ?_), ?_, fun t ht => ?_⟩
      · rw [arA.I (by decide)] at hz
        rw [tsee_fr a8 a5 a10 a11, arA.J (fun z => by simp only [UU, List.mem_cons, List.not_mem_nil, or_false] at z; omega)]
        exact tk t ht hz q hq
      · unfold mtw at tw1 ⊢
        rw [f2.2.2.1 5 (by decide), f2.1 113 (by decide) (by decide), f2.1 114 (by decide) (by decide)]
        exact tw1
      · rw [a10, g10, a11, g11, f2.1 113 (by decide) (by decide), f2.1 114 (by decide) (by decide), e113, e114]
        exact i3.2.2 t ht
    refine ⟨rfl, ⟨_, rfl⟩, enter_inv i1 i2 i4 i5 i6 i7 i8 i9 ga hT0 hi no eok ent ⟨fun w => (by cases w), fun w => ?_⟩ ?_ k1 f2 ac md zz (fun s' hs q hq => ?_) hT2⟩
    · have := (iI_eq (b := 5) (by omega) (by omega) (by omega) (by omega)).mp (show iI kd = iI 5 from w)
      omega
    · rw [iI_to (by omega) (by omega)]
      omega
    · cases hs
      rw [hw q hq, hm q hq]
      refine ⟨?_, fun w => ?_⟩
      · rw [A_look i1 i3 tn hq kd dn rt sd rb.1]
        unfold mlk mf mth mbs mab
        rw [e110, e111, e113, e114]
      · have w := (Bool.and_eq_true_iff.mp w).1
        unfold fcone at w
        exact (Bool.and_eq_true_iff.mp (Bool.and_eq_true_iff.mp w).2).1
