/-! ===== join: one answer ===== -/
def TP : List Nat := [41, 48, 50, 52, 54, 56, 58, 60, 62, 64, 66, 68, 70, 72, 74, 76, 78, 80, 82, 84, 86]
theorem TP_in : ∀ f, f < 20 → 48 + 2 * f ∈ TP := by decide
theorem Rn.ar {mj m0 : am_M} {g : Nat} (h : Rn mj m0 g) (hg : g < 20) : Ar TP mj m0 := Ar.ag h.1 (fun a ha => by
  simp only [List.mem_cons, List.not_mem_nil, or_false] at ha
  rcases ha with z | z
  · rw [z]; decide
  · rw [z]; exact TP_in g hg)
theorem mfits_fe {m m1 : am_M} (e115 : m1.1 115 = m.1 115) (e116 : m1.2.1 116 = m.2.1 116) (i f : Int) : mfits m1 i f = mfits m i f := by
  have ej : ∀ g, mjn m1 g = mjn m g := by
    intro g
    funext k
    unfold mjn msi
    rw [e115]
  have ec : ∀ j g k, mcl m1 j g k = mcl m j g k := by
    intro j g k
    induction k with
    | zero => rfl
    | succ k ihk =>
      show (mcl m1 j g k || _) = (mcl m j g k || _)
      rw [ihk, ej]
      unfold mak
      rw [e115]
  have em : ∀ g k, mpt m1 g k = mpt m g k := fun g k => funext fun q => mpt_fe e115 e116 g k q
  unfold mfits msi mfo mv
  rw [ec, em, e115, e116]
theorem RN.sqs {m : am_M} {E C : Nat} (h : RN m E C) {i : Nat} (hi : i < 60) (hs : msi m (i : Int) = true) : ∃ e s, am_gR YL m 35 i = some e ∧ am_gR YL m e 4 = some s ∧ csq m (i : Int) = some s ∧ ∀ q, q < 256 → wb (m.2.1 (s + 1)) q = wb (mv m 116 i) q := by
  rw [← h.si hi] at hs
  have cs := hs
  unfold csg at hs
  have p := h.1.places i hi
  cases hr : am_gR YL m 35 i with
  | none => rw [hr] at hs; cases hs
  | some e =>
    rw [hr] at hs p
    dsimp only at hs
    cases hx : am_gR YL m e 4 with
    | none =>
      rw [(h.sg i hi e hr).mp hx] at hs
      cases hs
    | some s =>
      refine ⟨e, s, rfl, hx, ?_, fun q hq => (p.2.2.2.2.2.2.2.2 s hx q hq).1⟩
      unfold csq
      rw [cent_n m hi, hr]
      exact hx
/-- a member's squares hold the patch -/
theorem A_mem {m : am_M} {E C : Nat} (h : RN m E C) {f q j : Nat} (hf : f < E) (hq : q < 256) (hj : j < 60) (hp : mpt m (iI (f : Int)) 60 q = true) (e : m.1 36 j = iI (f : Int)) : wb (mv m 116 j) q = true := by
  have hE := h.1.ever.1
  rw [← h.pt (by omega) hq] at hp
  unfold pat at hp
  have mm := pa_mem 60 (Bool.and_eq_true_iff.mp hp).2 j hj e
  rw [h.hs hj hq (h.jsg hj (fun z => iIn (show f < 21 by omega) (by rw [← e]; exact z)))] at mm
  exact mm
/-- the fire renewed, behind the act -/
theorem Rn.tail {T A : List Nat} {m mj m0 m2 : am_M} {f : Nat} (rr : Rn mj m0 f) (f20 : f < 20) (ar : Ar UU m0 m2) (gT : Gr T m m2) (hT : ∀ a, a ∈ T → a < 133) (arj : Ar A m mj) (hA : ∀ a, a ∈ A → a < 133) (h35 : 35 ∉ A) (hB : BK m) (e35 : (fun k => am_gR YL m2 35 k) = fun k => am_gR YL m 35 k) : (∀ j, m2.1 36 j = mj.1 36 j) ∧ m2.1 41 f = iI (cnt m2 (iI (f : Int)) : Int) ∧ ∀ q, q < 256 → wb (m2.2.1 (48 + 2 * f)) q = pat m2 (iI (f : Int)) q := by
  have e36 : ∀ j, m2.1 36 j = mj.1 36 j := fun j => by rw [ar.I (by decide), (rr.ar f20).I (by decide)]
  have p := pat_e (m := mj) (m2 := m2) (F := iI (f : Int)) (fun k _ => by rw [e36])
  refine ⟨e36, ?_, fun q hq => ?_⟩
  · rw [ar.I (by decide), rr.2.1, if_pos rfl, p.1]
  · rw [ar.J (fun z => by simp only [UU, List.mem_cons, List.not_mem_nil, or_false] at z; omega), rr.2.2 q hq]
    refine (p.2 q (fun k hk _ => ?_)).symm
    rw [has_gr gT hT hB hk (congrFun e35 k), has_gr (Gr.ar arj) hA hB hk (arj.R h35 k)]
theorem join_inv {m m0 m1 m2 : am_M} {n E C tp sz lt : Nat} (i1 : Wd m) (i2 : LK m) (i3 : Tw m n) (i4 : RN m E C) (i5 : WC m) (i6 : ∀ f, f < 20 → m.1 93 f = m.1 126 f) (i7 : ∀ i, i < 60 → m.1 37 i = m.1 132 i) (i8 : 130 ≤ am_n m) (i9 : Hist m tp sz lt (core m E C))
    {i g : Nat} (hi : i < 60) (hg : g < E) (ft : mfits m (i : Int) (g : Int) = true) (rr : Rn (am_pI m 36 i (iI (g : Int))) m0 g) (k1 : Kept m0 m1 tp sz 2 (iI (i : Int)) (iI (g : Int)) none) (f2' : Fm [115, 116, 117, 118, 119, 124, 125] [6, 7, 8, 13, 14] m1 m2) (ac : Acted m1 m2 lt sz) (s : ∀ k, m2.1 115 k = if k = 180 + i then iI (g : Int) else m.1 115 k) (e116 : m2.2.1 116 = m.2.1 116) (g5 : m2.1 109 5 = m.1 109 5) : Inv m2 := by
  have hE := i4.1.ever
  have hC := i4.1.crews
  have g20 : g < 20 := by omega
  unfold mfits at ft
  obtain ⟨y1, ft⟩ := Bool.and_eq_true_iff.mp ft
  obtain ⟨y2, ft⟩ := Bool.and_eq_true_iff.mp ft
  obtain ⟨y3, ft⟩ := Bool.and_eq_true_iff.mp ft
  obtain ⟨y4, ft⟩ := Bool.and_eq_true_iff.mp ft
  obtain ⟨y5, y6⟩ := Bool.and_eq_true_iff.mp ft
  have y3 := of_decide_eq_true y3
  have y4 := of_decide_eq_true y4
  rw [Int.toNat_natCast] at y3 y4 y6
  rw [i4.1.joined i hi] at y4
  have b0 := A_b0 i4 hg y3
  obtain ⟨e, sq, he, hs, _, _⟩ := i4.sqs hi y1
  obtain ⟨q0, hq0, w0⟩ := fb_ct_pos.mp (of_decide_eq_true y6)
  obtain ⟨w1, w2⟩ := Bool.and_eq_true_iff.mp w0
  have gk : Gr (36 :: TP) m m0 := Gr.ar (((Ar.rf (36 :: TP) m).pI (by decide) i (iI (g : Int))).tr ((rr.ar g20).sub (fun a z => List.mem_cons_of_mem _ z)))
  have ar := k1.ar f2'
  have gT := gr_act gk ar
  have hT : ∀ a, a ∈ (36 :: TP) ++ UU → a < 133 := by decide
  have r0 : RC m2 (core m E C) (m.1 115) (m.2.1 116) := RC.gr gT i8 hT (by decide) i4.1
  have e35 : (fun i => am_gR YL m2 35 i) = fun i => am_gR YL m 35 i := funext fun i => gT.R (by omega) (by decide) i
  have e39 : m2.1 39 = m.1 39 := gT.I (by omega) (by decide)
  have e40 : m2.1 40 = m.1 40 := gT.I (by omega) (by decide)
  have e92 : m2.1 92 = m.1 92 := gT.I (by omega) (by decide)
  have e36 : ∀ j, m2.1 36 j = if j = i then iI (g : Int) else m.1 36 j := fun j => by
    rw [ar.I (by decide), (rr.ar g20).I (by decide), am_pI_at]
  have ne : ∀ f, f < 20 → f ≠ g → ∀ k, (m2.1 36 k = iI (f : Int) ↔ m.1 36 k = iI (f : Int)) := by
    intro f hf hfg k
    rw [e36]
    by_cases c : k = i
    · rw [if_pos c, c, y4]
      exact ⟨fun z => absurd (iIi (by omega) (by omega) z) (fun w => hfg w.symm), fun z => absurd z.symm (iIn (by omega))⟩
    · rw [if_neg c]
  have cm : ∀ f, f < 20 → f ≠ g → fb_ct (fun j => decide (m2.1 36 j = iI (f : Int))) 60 = fb_ct (fun j => decide (m.1 36 j = iI (f : Int))) 60 := fun f hf hfg => fb_ct_cong (fun k _ => decide_eq_decide.mpr (ne f hf hfg k))
  have cg : 0 < fb_ct (fun j => decide (m2.1 36 j = iI (g : Int))) 60 := fb_ct_pos.mpr ⟨i, hi, decide_eq_true (by rw [e36, if_pos rfl])⟩
  have rn : RN m2 E C := by
    have rt := rr.tail g20 ar gT hT (((Ar.rf [36] m).pI (by decide) i (iI (g : Int)))) (by decide) (by decide) i4.bk e35
    have tl := i4.tail gT hT g (E' := E) (fun i _ _ => congrFun e35 i) (fun f hf hfg k _ => ne f (by omega) hfg k) (fun f hf hfg => by rw [ar.I (by decide), rr.2.1, if_neg hfg, am_pI_ne (by decide)]) (fun f hf hfg => by
      rw [ar.J (fun z => by simp only [UU, List.mem_cons, List.not_mem_nil, or_false] at z; omega), rr.1.J (fun z => by simp only [List.mem_cons, List.not_mem_nil, or_false] at z; omega)]
      rfl) (fun f hf _ => hf) (fun _ => rt.2.1) (fun _ => rt.2.2)
    refine ⟨?_, by rw [gT.I (by omega) (by decide)]; exact i4.2.1, by rw [gT.I (by omega) (by decide)]; exact i4.2.2.1, ?_, tl.1, tl.2⟩
    · rw [e35, e39, e40, e92, e116]
      refine ⟨fun j hj => (r0.places j hj).s (fun k hk => by rw [s, if_neg (by omega)]) (fun _ _ => rfl), fun j hj => ?_, fun j hj => ?_, ⟨hE.1, by rw [s, if_neg (by omega)]; exact hE.2⟩, fun f hf => ?_, fun f hf => by rw [s, if_neg (by omega)]; exact r0.again f hf, ⟨hC.1, by rw [s, if_neg (by omega)]; exact hC.2⟩, fun k hk => by rw [s, if_neg (by omega)]; exact r0.stands k hk, fun f hf hc => ?_⟩
      · rw [s, e36]
        by_cases c : j = i
        · rw [if_pos c, if_pos (by omega)]
        · rw [if_neg c, if_neg (by omega)]
          exact r0.joined j hj
      · by_cases c : j = i
        · refine Or.inr ⟨g, hg, by rw [e36, if_pos c], e, sq, by rw [c]; exact he, ?_⟩
          have b := i4.bk i hi e he
          rw [gT.R b.2.2.1 (fun z => by have := hT e z; have := b.2.1; omega)]
          exact hs
        · rw [e36, if_neg c]
          exact r0.joins j hj
      · rw [s, if_neg (by omega)]
        have o := r0.outs f hf
        by_cases c : f = g
        · rw [c] at o ⊢
          refine ⟨o.1, ?_⟩
          rw [y3, if_pos b0.1, if_pos cg]
        · rw [cm f (by omega) c]
          exact o
      · by_cases c : f = g
        · refine ⟨q0, hq0, fun j hj ej => ?_⟩
          rw [e36] at ej
          by_cases cj : j = i
          · rw [cj]
            exact w2
          · rw [if_neg cj, c] at ej
            exact A_mem i4 hg hq0 hj w1 ej
        · rw [cm f (by omega) c] at hc
          obtain ⟨q, hq, w⟩ := i4.1.patch f hf hc
          exact ⟨q, hq, fun j hj ej => w j hj ((ne f (by omega) c j).mp ej)⟩
    · rw [gT.I (by omega) (by decide), show (fun i => (am_gR YL m2 35 i).isSome) = fun i => (am_gR YL m 35 i).isSome from funext fun i => by rw [show am_gR YL m2 35 i = am_gR YL m 35 i from congrFun e35 i]]
      exact i4.2.2.2.1
  refine Inv.act (n := n) (E' := E) (C' := C) i1 i2 i4 i5 i6 i7 i8 i9 gk (by decide) (by decide) k1 f2' ac (i3.act i8 gk (by decide) ar g5) rn ?_ ?_
  · exact Or.inr (Or.inr (Or.inl ⟨rfl, i, g, hi, rfl, rfl, hg, by show m2.1 36 i = _; rw [e36, if_pos rfl]⟩))
  · rw [Un_2, toN (by omega)]
    refine ⟨fun j hj => ⟨congrFun e35 j, ?_⟩, rfl, fun f hf => ⟨congrFun e39 f, congrFun e40 f⟩, rfl, fun k hk => congrFun e92 k⟩
    show cup (m2.1 36) i (-1) j = m.1 36 j
    unfold cup
    by_cases c : j = i
    · rw [if_pos c, c, y4]
    · rw [if_neg c, e36, if_neg c]
theorem A_join {m : am_M} {E C : Nat} (h : RN m E C) (i f : Int) : (inR f 0 ((E : Int) - 1) && cfp m i f.toNat) = mfits m i f := by
  have fo := (h.fo f).2
  unfold inR
  by_cases c : 0 ≤ f ∧ f ≤ (E : Int) - 1
  · obtain ⟨g, rfl⟩ : ∃ n : Nat, f = (n : Int) := ⟨f.toNat, by omega⟩
    rw [decide_eq_true c, Bool.true_and, Int.toNat_natCast, h.fit i (show g < E by omega)]
  · rw [decide_eq_false c, Bool.false_and]
    have z : mfo m f = false := by
      cases y : mfo m f with
      | false => rfl
      | true => exact absurd (fo.mp y) (by omega)
    unfold mfits
    rw [z, Bool.false_and, Bool.and_false]
theorem P_join {m : am_M} (hI : Inv m) (i f : Int) (hbi : -2147483648 ≤ i ∧ i ≤ 2147483647) (hbf : -2147483648 ≤ f ∧ f ≤ 2147483647) : Pr 125 [some (.ref 3), some (.int (iI i)), some (.int (iI f))] 195 [some (.ref 109), some (.int (iI i)), some (.int (iI f))] m := by
  obtain ⟨n, E, C, tp, sz, lt, i1, i2, i3, i4, i5, i6, i7, i8, i9⟩ := id hI
  have hE := i4.1.ever
  have h9 := i9
  obtain ⟨t1, t2, t3, t4, t5, t6, t7, _⟩ := h9
  have gd := A_join i4 i f
  refine S_cjoin m _ i4.bk i4.jb i4.js E hE.1 i4.2.1 tp sz t1 t2 t4 t5 i f hbi hbf (fun z => ?_) (fun z m0 m1 rr k1 => ?_)
  · rw [gd] at z
    exact S_mjoin m _ E hE.1 hE.2 lt sz t3 t2 t7 t6 i f hbi hbf (fun _ m1 f1 => ⟨rfl, ⟨_, rfl⟩, hI.scr (f1.sub (by decide) (by decide))⟩) (fun w => by rw [z] at w; cases w)
  · rw [gd] at z
    have zz := z
    unfold mfits at zz
    obtain ⟨y1, zz⟩ := Bool.and_eq_true_iff.mp zz
    obtain ⟨y2, _⟩ := Bool.and_eq_true_iff.mp zz
    have y1 := of_decide_eq_true y1
    have y2 := (i4.fo f).2.mp y2
    obtain ⟨ii, rfl⟩ : ∃ n : Nat, i = (n : Int) := ⟨i.toNat, by omega⟩
    obtain ⟨g, rfl⟩ : ∃ n : Nat, f = (n : Int) := ⟨f.toNat, by omega⟩
    rw [Int.toNat_natCast, Int.toNat_natCast] at rr
    have gk : Gr (36 :: TP) m m0 := Gr.ar (((Ar.rf (36 :: TP) m).pI (by decide) ii (iI (g : Int))).tr ((rr.ar (by omega)).sub (fun a z => List.mem_cons_of_mem _ z)))
    have e115 := (k1.fr gk i8 115 (by decide) (by decide) (by decide)).1
    have e116 := (k1.fr gk i8 116 (by decide) (by decide) (by decide)).2
    have e109 := (k1.fr gk i8 109 (by decide) (by decide) (by decide)).1
    refine S_mjoin m1 _ E hE.1 (by rw [e115]; exact hE.2) lt sz t3 t2 (by rw [e109]; exact t7) (by rw [e109]; exact t6) (ii : Int) (g : Int) hbi hbf (fun w => by rw [mfits_fe e115 e116, z] at w; cases w) (fun _ m2 f2 ac s => ⟨rfl, ⟨_, rfl⟩, ?_⟩)
    rw [Int.toNat_natCast, e115] at s
    exact join_inv i1 i2 i3 i4 i5 i6 i7 i8 i9 (by omega) (by omega) z rr k1 (f2.sub (by decide) (by decide)) ac s (by rw [f2.2.1 116 (by decide), e116]) (by rw [f2.2.2.1 5 (by decide), e109])
