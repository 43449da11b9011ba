/-! ===== undo: one answer ===== -/
def KU : List Nat := [0, 1, 5, 6, 8, 37, 87, 88, 90, 93, 98, 99, 100, 101, 109, 110, 111, 112, 115, 116, 117, 118, 126, 132]
theorem undo_go {T : List Nat} {m mu : am_M} {n E C tp sz lt : Nat} (i1 : Wd m) (i2 : LK m) (i3 : Tw m n) (i4 : RN m E C) (i5 : WC m) (i6 : ∀ f, f < 20 → m.1 93 f = m.1 126 f) (i7 : ∀ i, i < 60 → m.1 37 i = m.1 132 i) (i8 : 130 ≤ am_n m) (i9 : Hist m tp (sz + 1) lt (core m E C))
    (gk : Gr T m mu) (hT : ∀ a, a ∈ T → a < 133) (hK : ∀ a, a ∈ KU → a ∉ T) (hW : ∀ a, a ∈ [5, 8, 9, 10, 11, 12, 17, 19, 21, 23, 25, 27, 29, 31, 33, 113, 114] → a ∉ T) (g4 : mu.1 97 4 = iI (dix tp 0 : Int)) (g5 : mu.1 97 5 = iI (sz : Int))
    (key : ∀ m2, Ar UU mu m2 → Gr (T ++ UU) m m2 → ∃ E' C' : Nat, m2.1 38 8 = iI (E' : Int) ∧ m2.1 91 6 = iI (C' : Int) ∧ m2.1 34 3 = iI (fb_ct (fun i => (am_gR YL m2 35 i).isSome) 60 : Int) ∧ ((∀ f, f < E' → m2.1 41 f = iI (cnt m2 (iI (f : Int)) : Int)) ∧ ∀ f, f < E' → ∀ q, q < 256 → wb (m2.2.1 (48 + 2 * f)) q = pat m2 (iI (f : Int)) q) ∧ Ce (core m2 E' C') (chn m tp (core m E C) 1)) :
    am_WP YL 177 0 0 0 [some (.ref 109), none] [] mu (fun r2 m2 => r2 = some (.int 1) ∧ (∃ v, (some (.int 1) : Option Value) = some (.int v)) ∧ Inv m2) := by
  have h9 := i9
  obtain ⟨t1, t2, t3, t4, t5, t6, t7, t8⟩ := h9
  obtain ⟨_, v2⟩ := t8 0 (by omega)
  have L : ∀ b, b ∈ KU → b < 133 → mu.1 b = m.1 b ∧ mu.2.1 b = m.2.1 b := fun b h1 h2 => ⟨gk.I (by omega) (hK b h1), gk.J (by omega) (hK b h1)⟩
  have l109 := (L 109 (by decide) (by decide)).1
  refine S_mundo mu _ lt sz t3 (by omega) (by rw [l109]; exact t7) (by rw [l109]; exact t6) (fun m2 f2 s115 s116 s14 s13 => ⟨rfl, ⟨_, rfl⟩, ?_⟩)
  have ar : Ar UU mu m2 := Ar.fm f2 (by decide) (by decide)
  have gT := gr_act gk ar
  have hTT : ∀ a, a ∈ T ++ UU → a < 133 := fun b hb => by
    rcases List.mem_append.mp hb with z | z
    · exact hT b z
    · exact (show ∀ b, b ∈ UU → b < 133 by decide) b z
  have h8 : 8 ∉ T ++ UU := fun z => by
    rcases List.mem_append.mp z with z | z
    · exact hK 8 (by decide) z
    · revert z
      decide
  obtain ⟨E', C', k38, k91, k34, ktl, ce⟩ := key m2 ar gT
  have I : ∀ b, b ∈ KU → b < 133 → b ∉ UU → m2.1 b = m.1 b := fun b h1 h2 h3 => by rw [ar.I h3, (L b h1 h2).1]
  have J : ∀ b, b ∈ KU → b < 133 → b ∉ UU → m2.2.1 b = m.2.1 b := fun b h1 h2 h3 => by rw [ar.J h3, (L b h1 h2).2]
  have F : ∀ b, b ∈ KU → b < 133 → b ∉ [115, 116] → b ≠ 109 → m2.1 b = m.1 b := fun b h1 h2 h3 h4 => by rw [f2.1 b h3 h4, (L b h1 h2).1]
  have e5 := I 5 (by decide) (by decide) (by decide)
  have e6 := I 6 (by decide) (by decide) (by decide)
  have e8 := J 8 (by decide) (by decide) (by decide)
  have el : (lt + 50 - 0) % 50 = lt := by omega
  have rs : RC m2 (core m2 E' C') (m2.1 115) (m2.2.1 116) := by
    have v3 := v2.gr gT i8 hTT h8
    rw [el] at v3
    refine (RC.sz (fun k hk => ?_) (fun k hk => ?_) v3).ce ce.sy
    · rw [s115 k hk, (L 117 (by decide) (by decide)).1]
    · rw [s116 k hk, (L 118 (by decide) (by decide)).2]
  have rn : RN m2 E' C' := ⟨rs, k38, k91, k34, ktl.1, ktl.2⟩
  refine ⟨n, E', C', dix tp 0, sz, (lt + 49) % 50, i1.fe e5 e6 e8 (I 110 (by decide) (by decide) (by decide)) (I 111 (by decide) (by decide) (by decide)) (I 112 (by decide) (by decide) (by decide)), ?_, i3.act i8 gk hW ar (by rw [f2.2.2.1 5 (by decide), l109]), rn, i5.fe e5 e6 e8 (I 87 (by decide) (by decide) (by decide)) (I 88 (by decide) (by decide) (by decide)) (I 90 (by decide) (by decide) (by decide)), ?_, ?_, ?_, Hist.undo (A := T ++ UU) i9 i8 (by rw [f2.1 97 (by decide) (by decide)]; exact g4) (by rw [f2.1 97 (by decide) (by decide)]; exact g5) (F 98 (by decide) (by decide) (by decide) (by decide)) (F 99 (by decide) (by decide) (by decide) (by decide)) (F 100 (by decide) (by decide) (by decide) (by decide)) (fun j => by rw [f2.R, gk.R (by omega) (hK 101 (by decide))]) (F 117 (by decide) (by decide) (by decide) (by decide)) (by rw [f2.2.1 118 (by decide), (L 118 (by decide) (by decide)).2]) s13 s14 gT hTT h8 ce⟩
  · unfold LK at i2 ⊢
    rw [I 0 (by decide) (by decide) (by decide), I 1 (by decide) (by decide) (by decide)]
    exact i2
  · rw [I 93 (by decide) (by decide) (by decide), I 126 (by decide) (by decide) (by decide)]
    exact i6
  · rw [I 37 (by decide) (by decide) (by decide), I 132 (by decide) (by decide) (by decide)]
    exact i7
  · rw [ar.n]
    exact Nat.le_trans i8 gk.1
theorem P_undo {m : am_M} (hI : Inv m) : Pr 146 [some (.ref 3), none, none] 177 [some (.ref 109), none] m := by
  obtain ⟨n, E, C, tp, sz, lt, i1, i2, i3, i4, i5, i6, i7, i8, i9⟩ := id hI
  have h9 := i9
  obtain ⟨t1, t2, t3, t4, t5, t6, t7, t8⟩ := h9
  have hE := i4.1.ever
  have hC := i4.1.crews
  cases sz with
  | zero => exact S_cundoNo m _ t5 (S_mundoNo m _ t6 ⟨rfl, ⟨_, rfl⟩, hI⟩)
  | succ sz =>
    obtain ⟨v1, v2⟩ := t8 0 (by omega)
    have edix : dix tp 0 = (tp + 49) % 50 := by unfold dix; omega
    have v2 : RC m (Un (m.1 98 (dix tp 0)) (m.1 99 (dix tp 0)) (m.1 100 (dix tp 0)) (am_gR YL m 101 (dix tp 0)) (core m E C)) _ _ := v2
    have ech : chn m tp (core m E C) 1 = Un (m.1 98 (dix tp 0)) (m.1 99 (dix tp 0)) (m.1 100 (dix tp 0)) (am_gR YL m 101 (dix tp 0)) (core m E C) := rfl
    have v1 : DV (m.1 98 (dix tp 0)) (m.1 99 (dix tp 0)) (m.1 100 (dix tp 0)) (am_gR YL m 101 (dix tp 0)) (core m E C) := v1
    have ef : ∀ f : Nat, f < E → cfo m (f : Int) = true := fun f hf => by rw [(i4.fo _).1]; exact (i4.fo _).2.mpr (by omega)
    have same : ∀ {T : List Nat} {m2 : am_M}, Gr (T ++ UU) m m2 → 35 ∉ T ++ UU → (fun i => am_gR YL m2 35 i) = fun i => am_gR YL m 35 i := fun gT h => funext fun i => gT.R (by omega) h i
    have cs : ∀ {m2 : am_M}, (fun i => am_gR YL m2 35 i) = (fun i => am_gR YL m 35 i) → m2.1 34 = m.1 34 → m2.1 34 3 = iI (fb_ct (fun i => (am_gR YL m2 35 i).isSome) 60 : Int) := fun {m2} e35 e34 => by
      rw [e34, show (fun i => (am_gR YL m2 35 i).isSome) = fun i => (am_gR YL m 35 i).isSome from funext fun i => by rw [show am_gR YL m2 35 i = am_gR YL m 35 i from congrFun e35 i]]
      exact i4.2.2.2.1
    refine S_cundo m _ i4.bk i4.js _ i4.2.2.2.1 tp (dix tp 0) sz t1 (by omega) t4 t5 edix ?_
    rcases v1 with ⟨a, i, hi, hw, e, he⟩ | ⟨a, i, hi, hw, hn, e, hx⟩ | ⟨a, i, f, hi, hw, ho, hf, hj⟩ | ⟨a, i, E', hi, hw, hE', hf, hj⟩ | ⟨a, i, f, hi, hw, ho, hf, hj⟩ | ⟨a, f, hw, hf⟩ | ⟨a, C', hC', hf⟩ | ⟨a, k, hw, hf⟩
    · have he : am_gR YL m 35 i = some e := he
      refine Or.inl ⟨a, i, hi, hw, fun m1 tl => ?_⟩
      rw [a, hw, Un_0, toN (by omega)] at v2 ech
      have jg : m.1 36 i = -1 := by
        rcases v2.joins i hi with w | ⟨f, hf, y, e', s', h1, h2⟩
        · exact w
        · have h1 : cup (fun i => am_gR YL m 35 i) i none i = some e' := h1
          unfold cup at h1
          rw [if_pos rfl] at h1
          cases h1
      have gk : Gr [34, 35, 97] m (am_pR (am_pI m1 34 3 (iI ((fb_ct (fun i => (am_gR YL m 35 i).isSome) 60 : Int) + (0 - oI (am_gR YL m 35 i))))) 35 i none) := Gr.ar (((Ar.ag tl.1 (by decide)).pI (by decide) _ _).pR (by decide) _ _)
      refine undo_go i1 i2 i3 i4 i5 i6 i7 i8 i9 gk (by decide) (by decide) (by decide) tl.2.1 tl.2.2 (fun m2 ar gT => ⟨E, C, ?_⟩)
      have e35 : ∀ j, am_gR YL m2 35 j = if j = i then none else am_gR YL m 35 j := fun j => by
        rw [ar.R (by decide), ← tl.1.R 35 j]
        exact am_pR_at _ 35 i j none
      have e36 : m2.1 36 = m.1 36 := gT.I (by omega) (by decide)
      refine ⟨by rw [gT.I (by omega) (by decide)]; exact i4.2.1, by rw [gT.I (by omega) (by decide)]; exact i4.2.2.1, ?_, i4.tail gT (by decide) 20 (E' := E) (fun i _ y => by rw [e35, if_neg (fun w => y (by rw [w]; exact jg))]) (fun f _ _ k _ => by rw [e36]) (fun f _ _ => by rw [gT.I (by omega) (by decide)]) (fun f hf _ => gT.J (by omega) (fun z => by simp only [UU, List.mem_append, List.mem_cons, List.not_mem_nil, or_false] at z; omega)) (fun f hf _ => hf) (fun w => absurd w (by omega)) (fun w => absurd w (by omega)), ?_⟩
      · have cu := fb_ct_upd (fun j => (am_gR YL m 35 j).isSome) false hi
        have e1 : fb_ct (fun i => (am_gR YL m2 35 i).isSome) 60 = fb_ct (fun k => if k = i then false else (am_gR YL m 35 k).isSome) 60 := fb_ct_cong (fun k _ => by
          rw [e35]
          by_cases c : k = i
          · rw [if_pos c, if_pos c]; rfl
          · rw [if_neg c, if_neg c])
        have e2 : (am_gR YL m 35 i).isSome = true := by rw [he]; rfl
        rw [if_pos e2, if_neg (by decide)] at cu
        have cv : fb_ct (fun i => (am_gR YL m2 35 i).isSome) 60 + 1 = fb_ct (fun j => (am_gR YL m 35 j).isSome) 60 := by
          rw [e1]
          exact cu
        rw [ar.I (by decide)]
        show (am_pI m1 34 3 _).1 34 3 = _
        rw [am_pI_at, if_pos rfl, he, show oI (some e) = 1 from rfl, ← cv]
        exact congrArg iI (by omega)
      · rw [ech]
        refine ⟨fun j hj => ⟨?_, congrFun e36 j⟩, rfl, fun f hf => ⟨congrFun (gT.I (a := 39) (by omega) (by decide)) f, congrFun (gT.I (a := 40) (by omega) (by decide)) f⟩, rfl, fun k hk => congrFun (gT.I (a := 92) (by omega) (by decide)) k⟩
        show am_gR YL m2 35 j = cup (fun i => am_gR YL m 35 i) i none j
        rw [e35]
        rfl
    · have hn : am_gR YL m 35 i = none := hn
      have a0 := a
      have w0 := hw
      rw [a, hw, hx, Un_1, toN (by omega)] at v2 ech
      have en : EnOK m e := by
        have p := v2.places i hi
        have p : PlOK m (cup (fun i => am_gR YL m 35 i) i (some e) i) _ _ i := p
        unfold cup at p
        rw [if_pos rfl] at p
        exact p.1
      refine Or.inr (Or.inl ⟨a0, i, hi, w0, e, hx, en.1, fun m1 tl => ?_⟩)
      have jg : m.1 36 i = -1 := by
        rcases i4.1.joins i hi with w | ⟨f, hf, y, e', s', h1, h2⟩
        · exact w
        · have h1 : am_gR YL m 35 i = some e' := h1
          rw [hn] at h1
          cases h1
      have gk : Gr [34, 35, 97] m (am_pR (am_pI m1 34 3 (iI ((fb_ct (fun i => (am_gR YL m 35 i).isSome) 60 : Int) + (1 - oI (am_gR YL m 35 i))))) 35 i (some e)) := Gr.ar (((Ar.ag tl.1 (by decide)).pI (by decide) _ _).pR (by decide) _ _)
      refine undo_go i1 i2 i3 i4 i5 i6 i7 i8 i9 gk (by decide) (by decide) (by decide) tl.2.1 tl.2.2 (fun m2 ar gT => ⟨E, C, ?_⟩)
      have e35 : ∀ j, am_gR YL m2 35 j = if j = i then some e else am_gR YL m 35 j := fun j => by
        rw [ar.R (by decide), ← tl.1.R 35 j]
        exact am_pR_at _ 35 i j (some e)
      have e36 : m2.1 36 = m.1 36 := gT.I (by omega) (by decide)
      refine ⟨by rw [gT.I (by omega) (by decide)]; exact i4.2.1, by rw [gT.I (by omega) (by decide)]; exact i4.2.2.1, ?_, i4.tail gT (by decide) 20 (E' := E) (fun i _ y => by rw [e35, if_neg (fun w => y (by rw [w]; exact jg))]) (fun f _ _ k _ => by rw [e36]) (fun f _ _ => by rw [gT.I (by omega) (by decide)]) (fun f hf _ => gT.J (by omega) (fun z => by simp only [UU, List.mem_append, List.mem_cons, List.not_mem_nil, or_false] at z; omega)) (fun f hf _ => hf) (fun w => absurd w (by omega)) (fun w => absurd w (by omega)), ?_⟩
      · have cu := fb_ct_upd (fun j => (am_gR YL m 35 j).isSome) true hi
        have e1 : fb_ct (fun i => (am_gR YL m2 35 i).isSome) 60 = fb_ct (fun k => if k = i then true else (am_gR YL m 35 k).isSome) 60 := fb_ct_cong (fun k _ => by
          rw [e35]
          by_cases c : k = i
          · rw [if_pos c, if_pos c]; rfl
          · rw [if_neg c, if_neg c])
        have e2 : ¬ (am_gR YL m 35 i).isSome = true := by rw [hn]; decide
        rw [if_neg e2, if_pos rfl] at cu
        have cv : fb_ct (fun i => (am_gR YL m2 35 i).isSome) 60 = fb_ct (fun j => (am_gR YL m 35 j).isSome) 60 + 1 := by
          rw [e1]
          exact cu
        rw [cv, ar.I (by decide)]
        show (am_pI m1 34 3 _).1 34 3 = _
        rw [am_pI_at, if_pos rfl, hn, show oI none = 0 from rfl]
        congr 1
      · rw [ech]
        refine ⟨fun j hj => ⟨?_, congrFun e36 j⟩, rfl, fun f hf => ⟨congrFun (gT.I (a := 39) (by omega) (by decide)) f, congrFun (gT.I (a := 40) (by omega) (by decide)) f⟩, rfl, fun k hk => congrFun (gT.I (a := 92) (by omega) (by decide)) k⟩
        show am_gR YL m2 35 j = cup (fun i => am_gR YL m 35 i) i (some e) j
        rw [e35]
        rfl
    · have hf : f < E := hf
      have hj : m.1 36 i = iI (f : Int) := hj
      refine Or.inr (Or.inr (Or.inl ⟨a, i, f, hi, hw, ho, ef f hf, fun m1 mu tl rr => ?_⟩))
      rw [a, hw, Un_2, toN (by omega)] at ech
      have gk : Gr (36 :: 97 :: TP) m mu := Gr.ar (((Ar.ag tl.1 (by decide)).pI (by decide) i (-1)).tr ((rr.ar (by omega)).sub (fun a z => List.mem_cons_of_mem _ (List.mem_cons_of_mem _ z))))
      have r97 : mu.1 97 = m1.1 97 := by rw [(rr.ar (by omega)).I (by decide), am_pI_ne (by decide)]
      refine undo_go i1 i2 i3 i4 i5 i6 i7 i8 i9 gk (by decide) (by decide) (by decide) (by rw [r97]; exact tl.2.1) (by rw [r97]; exact tl.2.2) (fun m2 ar gT => ⟨E, C, ?_⟩)
      have hT : ∀ a, a ∈ (36 :: 97 :: TP) ++ UU → a < 133 := by decide
      have e35 := same gT (by decide)
      have e36' : ∀ j, m2.1 36 j = (am_pI m1 36 i (-1)).1 36 j := fun j => by rw [ar.I (by decide), (rr.ar (by omega)).I (by decide)]
      have e36 : ∀ j, m2.1 36 j = if j = i then -1 else m.1 36 j := fun j => by rw [e36', am_pI_at, tl.1.I (by decide)]
      have rt := rr.tail (by omega) ar gT hT ((Ar.ag (B := [36, 97]) tl.1 (by decide)).pI (by decide) i _) (by decide) (by decide) i4.bk e35
      refine ⟨by rw [gT.I (by omega) (by decide)]; exact i4.2.1, by rw [gT.I (by omega) (by decide)]; exact i4.2.2.1, cs e35 (gT.I (by omega) (by decide)), i4.tail gT hT f (E' := E) (fun i _ _ => congrFun e35 i) (fun f' hf' hfg k _ => ?_) (fun f' hf' hfg => by rw [ar.I (by decide), rr.2.1, if_neg hfg, am_pI_ne (by decide), tl.1.I (by decide)]) (fun f' hf' hfg => by
        rw [ar.J (fun z => by simp only [UU, List.mem_cons, List.not_mem_nil, or_false] at z; omega), rr.1.J (fun z => by simp only [List.mem_cons, List.not_mem_nil, or_false] at z; omega)]
        show m1.2.1 (48 + 2 * f') = m.2.1 (48 + 2 * f')
        rw [tl.1.J (fun z => by simp only [List.mem_cons, List.not_mem_nil, or_false] at z; omega)]) (fun f' hf' _ => hf') (fun _ => rt.2.1) (fun _ => rt.2.2), ?_⟩
      · rw [e36]
        by_cases c : k = i
        · rw [if_pos c, c, hj]
          exact ⟨fun z => absurd z.symm (iIn (by omega)), fun z => absurd (iIi (by omega) (by omega) z) (fun w => hfg w.symm)⟩
        · rw [if_neg c]
      · rw [ech]
        refine ⟨fun j hj => ⟨congrFun e35 j, ?_⟩, rfl, fun f hf => ⟨congrFun (gT.I (a := 39) (by omega) (by decide)) f, congrFun (gT.I (a := 40) (by omega) (by decide)) f⟩, rfl, fun k hk => congrFun (gT.I (a := 92) (by omega) (by decide)) k⟩
        show m2.1 36 j = cup (m.1 36) i (-1) j
        rw [e36]
        rfl
    · have hf : E = E' + 1 := hf
      subst hf
      have hj : m.1 36 i = iI (E' : Int) := hj
      refine Or.inr (Or.inr (Or.inr (Or.inl ⟨a, i, E', hi, hw, hE', i4.2.1, fun m1 tl => ?_⟩)))
      rw [a, hw, Un_3, toN (by omega)] at ech
      have gk : Gr [36, 38, 97] m (am_pI (am_pI m1 36 i (-1)) 38 8 (iI (E' : Int))) := Gr.ar (((Ar.ag tl.1 (by decide)).pI (by decide) _ _).pI (by decide) _ _)
      refine undo_go i1 i2 i3 i4 i5 i6 i7 i8 i9 gk (by decide) (by decide) (by decide) tl.2.1 tl.2.2 (fun m2 ar gT => ⟨E', C, ?_⟩)
      have e35 := same gT (by decide)
      have e36 : ∀ j, m2.1 36 j = if j = i then -1 else m.1 36 j := fun j => by
        rw [ar.I (by decide), am_pI_ne (by decide), am_pI_at, tl.1.I (by decide)]
      refine ⟨by rw [ar.I (by decide), am_pI_at, if_pos rfl], by rw [gT.I (by omega) (by decide)]; exact i4.2.2.1, cs e35 (gT.I (by omega) (by decide)), i4.tail gT (by decide) 20 (E' := E') (fun i _ _ => congrFun e35 i) (fun f' hf' _ k _ => ?_) (fun f _ _ => by rw [gT.I (by omega) (by decide)]) (fun f hf _ => gT.J (by omega) (fun z => by simp only [UU, List.mem_append, List.mem_cons, List.not_mem_nil, or_false] at z; omega)) (fun f hf _ => by omega) (fun w => absurd w (by omega)) (fun w => absurd w (by omega)), ?_⟩
      · rw [e36]
        by_cases c : k = i
        · rw [if_pos c, c, hj]
          exact ⟨fun z => absurd z.symm (iIn (by omega)), fun z => absurd (iIi (by omega) (by omega) z) (by omega)⟩
        · rw [if_neg c]
      · rw [ech]
        refine ⟨fun j hj => ⟨congrFun e35 j, ?_⟩, rfl, fun f hf => ⟨congrFun (gT.I (a := 39) (by omega) (by decide)) f, congrFun (gT.I (a := 40) (by omega) (by decide)) f⟩, rfl, fun k hk => congrFun (gT.I (a := 92) (by omega) (by decide)) k⟩
        show m2.1 36 j = cup (m.1 36) i (-1) j
        rw [e36]
        rfl
    · have hf : f < E := hf
      have hj : m.1 36 i = -1 := hj
      have a0 := a
      have w0 := hw
      rw [a, hw, Un_4, toN (by omega), ho] at v2 ech
      have sq : ∃ s, csq m (i : Int) = some s := by
        rcases v2.joins i hi with w | ⟨f', hf', y, e', s', h1, h2⟩
        · have w : cup (m.1 36) i (iI (f : Int)) i = -1 := w
          unfold cup at w
          rw [if_pos rfl] at w
          exact absurd w (iIn (by omega))
        · have h1 : am_gR YL m 35 i = some e' := h1
          refine ⟨s', ?_⟩
          unfold csq
          rw [cent_n m hi, h1]
          exact h2
      refine Or.inr (Or.inr (Or.inr (Or.inr (Or.inl ⟨a0, i, f, hi, w0, ho, ef f hf, sq, fun m1 mu tl rr => ?_⟩))))
      have gk : Gr (36 :: 97 :: TP) m mu := Gr.ar (((Ar.ag tl.1 (by decide)).pI (by decide) i (iI (f : Int))).tr ((rr.ar (by omega)).sub (fun a z => List.mem_cons_of_mem _ (List.mem_cons_of_mem _ z))))
      have r97 : mu.1 97 = m1.1 97 := by rw [(rr.ar (by omega)).I (by decide), am_pI_ne (by decide)]
      refine undo_go i1 i2 i3 i4 i5 i6 i7 i8 i9 gk (by decide) (by decide) (by decide) (by rw [r97]; exact tl.2.1) (by rw [r97]; exact tl.2.2) (fun m2 ar gT => ⟨E, C, ?_⟩)
      have hT : ∀ a, a ∈ (36 :: 97 :: TP) ++ UU → a < 133 := by decide
      have e35 := same gT (by decide)
      have e36' : ∀ j, m2.1 36 j = (am_pI m1 36 i (iI (f : Int))).1 36 j := fun j => by rw [ar.I (by decide), (rr.ar (by omega)).I (by decide)]
      have e36 : ∀ j, m2.1 36 j = if j = i then iI (f : Int) else m.1 36 j := fun j => by rw [e36', am_pI_at, tl.1.I (by decide)]
      have rt := rr.tail (by omega) ar gT hT ((Ar.ag (B := [36, 97]) tl.1 (by decide)).pI (by decide) i _) (by decide) (by decide) i4.bk e35
      refine ⟨by rw [gT.I (by omega) (by decide)]; exact i4.2.1, by rw [gT.I (by omega) (by decide)]; exact i4.2.2.1, cs e35 (gT.I (by omega) (by decide)), i4.tail gT hT f (E' := E) (fun i _ _ => congrFun e35 i) (fun f' hf' hfg k _ => ?_) (fun f' hf' hfg => by rw [ar.I (by decide), rr.2.1, if_neg hfg, am_pI_ne (by decide), tl.1.I (by decide)]) (fun f' hf' hfg => by
        rw [ar.J (fun z => by simp only [UU, List.mem_cons, List.not_mem_nil, or_false] at z; omega), rr.1.J (fun z => by simp only [List.mem_cons, List.not_mem_nil, or_false] at z; omega)]
        show m1.2.1 (48 + 2 * f') = m.2.1 (48 + 2 * f')
        rw [tl.1.J (fun z => by simp only [List.mem_cons, List.not_mem_nil, or_false] at z; omega)]) (fun f' hf' _ => hf') (fun _ => rt.2.1) (fun _ => rt.2.2), ?_⟩
      · rw [e36]
        by_cases c : k = i
        · rw [if_pos c, c, hj]
          exact ⟨fun z => absurd (iIi (by omega) (by omega) z) (fun w => hfg w.symm), fun z => absurd z.symm (iIn (by omega))⟩
        · rw [if_neg c]
      · rw [ech]
        refine ⟨fun j hj => ⟨congrFun e35 j, ?_⟩, rfl, fun f hf => ⟨congrFun (gT.I (a := 39) (by omega) (by decide)) f, congrFun (gT.I (a := 40) (by omega) (by decide)) f⟩, rfl, fun k hk => congrFun (gT.I (a := 92) (by omega) (by decide)) k⟩
        show m2.1 36 j = cup (m.1 36) i (iI (f : Int)) j
        rw [e36]
        rfl
    · have hf : f < E := hf
      refine Or.inr (Or.inr (Or.inr (Or.inr (Or.inr (Or.inl ⟨a, f, hw, ef f hf, fun m1 tl => ?_⟩)))))
      rw [a, hw, Un_5, toN (by omega)] at ech
      have gk : Gr [39, 97] m (am_pI m1 39 f 0) := Gr.ar ((Ar.ag tl.1 (by decide)).pI (by decide) _ _)
      refine undo_go i1 i2 i3 i4 i5 i6 i7 i8 i9 gk (by decide) (by decide) (by decide) tl.2.1 tl.2.2 (fun m2 ar gT => ⟨E, C, ?_⟩)
      have e35 := same gT (by decide)
      have e36 : m2.1 36 = m.1 36 := gT.I (by omega) (by decide)
      refine ⟨by rw [gT.I (by omega) (by decide)]; exact i4.2.1, by rw [gT.I (by omega) (by decide)]; exact i4.2.2.1, cs e35 (gT.I (by omega) (by decide)), i4.tail gT (by decide) 20 (E' := E) (fun i _ _ => congrFun e35 i) (fun f _ _ k _ => by rw [e36]) (fun f _ _ => by rw [gT.I (by omega) (by decide)]) (fun f hf _ => gT.J (by omega) (fun z => by simp only [UU, List.mem_append, List.mem_cons, List.not_mem_nil, or_false] at z; omega)) (fun f hf _ => hf) (fun w => absurd w (by omega)) (fun w => absurd w (by omega)), ?_⟩
      rw [ech]
      refine ⟨fun j hj => ⟨congrFun e35 j, congrFun e36 j⟩, rfl, fun f' hf' => ⟨?_, congrFun (gT.I (a := 40) (by omega) (by decide)) f'⟩, rfl, fun k hk => congrFun (gT.I (a := 92) (by omega) (by decide)) k⟩
      show m2.1 39 f' = cup (m.1 39) f 0 f'
      rw [ar.I (by decide), am_pI_at, tl.1.I (by decide)]
      rfl
    · have hf : C = C' + 1 := hf
      subst hf
      refine Or.inr (Or.inr (Or.inr (Or.inr (Or.inr (Or.inr (Or.inl ⟨a, C', hC', i4.2.2.1, fun m1 tl => ?_⟩))))))
      rw [a, Un_6] at ech
      have gk : Gr [91, 97] m (am_pI m1 91 6 (iI (C' : Int))) := Gr.ar ((Ar.ag tl.1 (by decide)).pI (by decide) _ _)
      refine undo_go i1 i2 i3 i4 i5 i6 i7 i8 i9 gk (by decide) (by decide) (by decide) tl.2.1 tl.2.2 (fun m2 ar gT => ⟨E, C', ?_⟩)
      have e35 := same gT (by decide)
      have e36 : m2.1 36 = m.1 36 := gT.I (by omega) (by decide)
      refine ⟨by rw [gT.I (by omega) (by decide)]; exact i4.2.1, by rw [ar.I (by decide), am_pI_at, if_pos rfl], cs e35 (gT.I (by omega) (by decide)), i4.tail gT (by decide) 20 (E' := E) (fun i _ _ => congrFun e35 i) (fun f _ _ k _ => by rw [e36]) (fun f _ _ => by rw [gT.I (by omega) (by decide)]) (fun f hf _ => gT.J (by omega) (fun z => by simp only [UU, List.mem_append, List.mem_cons, List.not_mem_nil, or_false] at z; omega)) (fun f hf _ => hf) (fun w => absurd w (by omega)) (fun w => absurd w (by omega)), ?_⟩
      rw [ech]
      exact ⟨fun j hj => ⟨congrFun e35 j, congrFun e36 j⟩, rfl, fun f' hf' => ⟨congrFun (gT.I (a := 39) (by omega) (by decide)) f', congrFun (gT.I (a := 40) (by omega) (by decide)) f'⟩, rfl, fun k hk => congrFun (gT.I (a := 92) (by omega) (by decide)) k⟩
    · have hf : k < C := hf
      have hco : cco m (k : Int) = true := by
        rw [(A_crew i4 k).1, mco_C (CR_of i4)]
        exact decide_eq_true (by omega)
      refine Or.inr (Or.inr (Or.inr (Or.inr (Or.inr (Or.inr (Or.inr ⟨a, k, hw, hco, fun m1 tl => ?_⟩))))))
      rw [a, hw, Un_7, toN (by omega)] at ech
      have gk : Gr [92, 97] m (am_pI m1 92 k (m.1 100 (dix tp 0))) := Gr.ar ((Ar.ag tl.1 (by decide)).pI (by decide) _ _)
      refine undo_go i1 i2 i3 i4 i5 i6 i7 i8 i9 gk (by decide) (by decide) (by decide) tl.2.1 tl.2.2 (fun m2 ar gT => ⟨E, C, ?_⟩)
      have e35 := same gT (by decide)
      have e36 : m2.1 36 = m.1 36 := gT.I (by omega) (by decide)
      refine ⟨by rw [gT.I (by omega) (by decide)]; exact i4.2.1, by rw [gT.I (by omega) (by decide)]; exact i4.2.2.1, cs e35 (gT.I (by omega) (by decide)), i4.tail gT (by decide) 20 (E' := E) (fun i _ _ => congrFun e35 i) (fun f _ _ k _ => by rw [e36]) (fun f _ _ => by rw [gT.I (by omega) (by decide)]) (fun f hf _ => gT.J (by omega) (fun z => by simp only [UU, List.mem_append, List.mem_cons, List.not_mem_nil, or_false] at z; omega)) (fun f hf _ => hf) (fun w => absurd w (by omega)) (fun w => absurd w (by omega)), ?_⟩
      rw [ech]
      refine ⟨fun j hj => ⟨congrFun e35 j, congrFun e36 j⟩, rfl, fun f' hf' => ⟨congrFun (gT.I (a := 39) (by omega) (by decide)) f', congrFun (gT.I (a := 40) (by omega) (by decide)) f'⟩, rfl, fun j hj => ?_⟩
      show m2.1 92 j = cup (m.1 92) k (m.1 100 (dix tp 0)) j
      rw [ar.I (by decide), am_pI_at, tl.1.I (by decide)]
      rfl
