/-! ===== send: one answer ===== -/
theorem mdl_in (p : Nat → Bool) (sm : Nat → Nat) (h : ∀ s, s < 256 → sm s ≤ 7680) : ∀ k, k ≤ 256 → ((mdl p sm k).2 = 1000000000 ∧ ∀ q, q < k → p q = false) ∨ (∃ s : Nat, (mdl p sm k).1 = (s : Int) ∧ s < k ∧ p s = true)
  | 0, _ => Or.inl ⟨rfl, fun q hq => absurd hq (Nat.not_lt_zero q)⟩
  | k + 1, hk => by
    have ih := mdl_in p sm h k (by omega)
    have sb := h k (by omega)
    rw [show mdl p sm (k + 1) = (if p k = true ∧ (sm k : Int) < (mdl p sm k).2 then ((k : Int), (sm k : Int)) else mdl p sm k) from rfl]
    by_cases c : p k = true ∧ (sm k : Int) < (mdl p sm k).2
    · rw [if_pos c]
      exact Or.inr ⟨k, rfl, by omega, c.1⟩
    · rw [if_neg c]
      rcases ih with ⟨a, b⟩ | ⟨s, a, b, d⟩
      · refine Or.inl ⟨a, fun q hq => ?_⟩
        rcases Nat.lt_or_ge q k with z | z
        · exact b q z
        · have e : q = k := by omega
          cases w : p q with
          | false => rfl
          | true => exact absurd ⟨by rw [← e]; exact w, by rw [a]; omega⟩ c
      · exact Or.inr ⟨s, a, by omega, d⟩
theorem mid_in {p : Nat → Bool} {q0 : Nat} (h : q0 < 256) (hp : p q0 = true) : 0 ≤ mid p ∧ mid p < 256 ∧ p (mid p).toNat = true := by
  unfold mid
  rcases mdl_in p (fun s => td p s 256) (fun s hs => by have := td_b p hs 256 (Nat.le_refl _); omega) 256 (Nat.le_refl _) with ⟨_, b⟩ | ⟨s, a, b, c⟩
  · rw [b q0 h] at hp
    cases hp
  · rw [a, Int.toNat_natCast]
    exact ⟨by omega, by omega, c⟩
theorem pa_mem {m : am_M} {f : Int32} {q : Nat} : ∀ k, pa m f k q = true → ∀ i, i < k → m.1 36 i = f → has m i q = true
  | 0, _, i, hi, _ => absurd hi (Nat.not_lt_zero i)
  | k + 1, h, i, hi, e => by
    have h : (pa m f k q && (!decide (m.1 36 k = f) || has m k q)) = true := h
    obtain ⟨a, b⟩ := Bool.and_eq_true_iff.mp h
    rcases Nat.lt_or_ge i k with z | z
    · exact pa_mem k a i z e
    · have ik : i = k := by omega
      rw [← ik, decide_eq_true e] at b
      exact b
theorem pat_th {m : am_M} {E C : Nat} (h : RN m E C) {f q : Nat} (hf : f < E) (hq : q < 256) (hp : pat m (iI (f : Int)) q = true) : wb (m.2.1 8) q = true := by
  have hE := h.1.ever.1
  unfold pat at hp
  obtain ⟨a, b⟩ := Bool.and_eq_true_iff.mp hp
  have a := of_decide_eq_true a
  unfold cnt at a
  obtain ⟨i, hi, z⟩ := fb_ct_pos.mp a
  have z := of_decide_eq_true z
  have mem := pa_mem 60 b i hi z
  have p := h.1.places i hi
  rcases h.1.joins i hi with w | ⟨g, hg, _, e, s, h1, h2⟩
  · rw [z] at w
    have := (iI_eq (a := (f : Int)) (b := -1) (by omega) (by omega) (by omega) (by omega)).mp (show iI (f : Int) = iI (-1) from w)
    omega
  · have h1 : am_gR YL m 35 i = some e := h1
    rw [h1] at p
    have y := p.2.2.2.2.2.2.2.2 s h2 q hq
    have hh : has m i q = wb (m.2.1 (s + 1)) q := by
      unfold has csq
      rw [cent_n m hi, h1]
      dsimp only
      rw [h2]
    exact y.2 (by rw [← hh]; exact mem)
theorem A_br {m : am_M} {E C : Nat} (h : RN m E C) {f : Nat} (hf : f < E) : cbr m f = mbr m f := by
  unfold cbr mbr
  have b := cst_b m (f : Int)
  rw [← h.st hf, show (0 : Int32) = iI 0 from rfl]
  exact decide_eq_decide.mpr (iI_eq (by omega) (by omega) (by omega) (by omega)).symm
theorem A_md {m : am_M} {E C : Nat} (h : RN m E C) {f : Nat} (hf : f < E) : cmd m f = mmd m f := by
  have hE := h.1.ever.1
  unfold cmd mmd
  exact mid_cong (fun q hq => by rw [h.2.2.2.2.2 f hf q hq, h.pt (by omega) hq])
theorem A_full {m : am_M} {E C : Nat} (h : RN m E C) {f : Nat} (hf : f < E) (hc : 0 < fb_ct (fun i => decide (m.1 36 i = iI (f : Int))) 60) : ∃ q, q < 256 ∧ pat m (iI (f : Int)) q = true := by
  have hE := h.1.ever.1
  obtain ⟨q, hq, w⟩ := h.1.patch f hf hc
  refine ⟨q, hq, ?_⟩
  rw [h.pt (by omega) hq]
  unfold mpt
  rw [← h.ct (by omega), decide_eq_true (show 0 < cnt m (iI (f : Int)) from hc), Bool.true_and]
  have : ∀ k, k ≤ 60 → mal m (iI (f : Int)) k q = true := by
    intro k
    induction k with
    | zero => exact fun _ => rfl
    | succ k ih =>
      intro hk
      show (mal m (iI (f : Int)) k q && (!mjn m (iI (f : Int)) k || wb (mv m 116 k) q)) = true
      rw [ih (by omega), h.jn (by omega) (by omega), Bool.true_and]
      by_cases c : m.1 36 k = iI (f : Int)
      · rw [show wb (mv m 116 k) q = true from w k (by omega) c, Bool.or_true]
      · rw [decide_eq_false c]
        rfl
  exact this 60 (Nat.le_refl _)
theorem A_mid {m : am_M} {E C : Nat} (h : RN m E C) {f : Nat} (hf : f < E) (hb : mbr m f = true) : 0 ≤ cmd m f ∧ cmd m f < 256 ∧ wb (m.2.1 8) (cmd m f).toNat = true := by
  have hb : m.1 115 (300 + f) = 0 := of_decide_eq_true hb
  have o := (h.1.outs f hf).2
  rw [hb] at o
  have hc : 0 < fb_ct (fun i => decide (m.1 36 i = iI (f : Int))) 60 := by
    by_cases c : m.1 39 f = 0
    · rw [if_pos c] at o
      by_cases d : 0 < fb_ct (fun i => decide (m.1 36 i = iI (f : Int))) 60
      · exact d
      · rw [if_neg d] at o
        exact absurd o (by decide)
    · rw [if_neg c] at o
      exact absurd o (by decide)
  obtain ⟨q, hq, w⟩ := A_full h hf hc
  have e := h.2.2.2.2.2 f hf
  unfold cmd
  have y := mid_in (p := wb (m.2.1 (48 + 2 * f))) hq (by rw [e q hq]; exact w)
  refine ⟨y.1, y.2.1, pat_th h hf (by omega) ?_⟩
  rw [← e _ (by omega)]
  exact y.2.2
theorem A_wt {m : am_M} {E C : Nat} (hW : Wd m) (h : RN m E C) (p k : Nat) (hp : p < fb_ct (cbr m) E) (hk : k < C) : (cwt m E p k < 1000000 ∨ mwt m E p k < 1000000) → cwt m E p k = mwt m E p k := by
  have eb : brn (cbr m) E p = brn (mbr m) E p := by
    unfold brn
    rw [kth_cong (fun q hq => A_br h hq)]
  have bo := (brn_ok hp).1
  have ea : cat m k = mca m k := by
    have s := (h.1.stands k hk).1
    unfold cat mca
    rw [s]
  unfold cwt mwt capd
  rw [A_md h bo, eb, ea]
  have q := A_way hW (dsn_tab (cgr hW.1) (mmd m (brn (mbr m) E p)).toNat) (dsn_tab (mgr hW.2.1) (mmd m (brn (mbr m) E p)).toNat) (mca m k)
  by_cases c : dsn (ced m) (cw m) (mmd m (brn (mbr m) E p)).toNat (mca m k) < 1000000000
  · have e := q (Or.inl c)
    rw [← e]
    intro _
    rw [if_pos c, if_pos c]
  · have d : ¬ dsn (med m) (mw m) (mmd m (brn (mbr m) E p)).toNat (mca m k) < 1000000000 := fun w => c (by rw [q (Or.inr w)]; exact w)
    rw [if_neg c, if_neg d]
    intro w
    omega
theorem Inv.sd {m m2 : am_M} (h : Ar [45, 46, 87, 88, 89, 90, 91, 93, 94, 95, 96, 109, 119, 124, 125, 126, 127, 128, 129, 130] m m2) (g6 : m2.1 91 6 = m.1 91 6) (hw : WC m2) (g9 : ∀ j, m2.1 109 j = m.1 109 j) (g93 : ∀ f, f < 20 → m2.1 93 f = m2.1 126 f) (hI : Inv m) : Inv m2 :=
  hI.fg91 h (by decide) (by decide) g6 (fun f hf z => by simp only [List.mem_cons, List.not_mem_nil, or_false] at z; omega) (fun n t => t.fr (h.I (by decide)) (h.J (by decide)) (h.I (by decide)) (h.I (by decide)) (h.I (by decide)) (h.I (by decide)) (h.J (by decide)) (fun t ht => h.J (fun z => by simp only [List.mem_cons, List.not_mem_nil, or_false] at z; omega)) (h.I (by decide)) (h.I (by decide)) (g9 5)) (fun _ => hw) (g9 13) (g9 14) (fun _ => g93) (fun k j hj => by rw [h.I (by decide), h.I (by decide)]; exact k j hj)
theorem P_send {m : am_M} (hI : Inv m) : Pr 139 [some (.ref 3), none, none] 217 [some (.ref 109), none, none, none, none] m := by
  obtain ⟨n, E, C, tp, sz, lt, i1, i2, i3, i4, i5, i6, i7, i8, i9⟩ := id hI
  have hE := i4.1.ever
  have hC := i4.1.crews
  have eN : fb_ct (cbr m) E = fb_ct (mbr m) E := fb_ct_cong (fun f hf => A_br i4 hf)
  have hmd : ∀ {mm : am_M}, Wd mm → RN mm E C → ∀ f, f < E → mbr mm f = true → 0 ≤ mmd mm f ∧ mmd mm f < 256 ∧ mt mm (mmd mm f).toNat = true := fun hW h f hf hb => by
    have a := A_mid h hf hb
    rw [A_md h hf] at a
    rw [← hW.2.2.1 _ (by omega)]
    exact a
  have after : ∀ {A : List Nat} {m1 : am_M}, Ag A m m1 → (∀ a, a ∈ A → a ∈ [45, 46, 87, 88, 89, 90, 91, 93, 94, 95, 96]) → m1.1 91 6 = m.1 91 6 → Ar [45, 46, 87, 88, 89, 90, 91, 93, 94, 95, 96] m m1 ∧ Wd m1 ∧ RN m1 E C ∧ mbr m1 = mbr m ∧ mwt m1 E = mwt m E := by
    intro A m1 f1 hs g6
    have ar : Ar [45, 46, 87, 88, 89, 90, 91, 93, 94, 95, 96] m m1 := Ar.ag f1 hs
    have e110 : m1.1 110 = m.1 110 := ar.I (by decide)
    have e111 : m1.1 111 = m.1 111 := ar.I (by decide)
    have e112 : m1.1 112 = m.1 112 := ar.I (by decide)
    have e115 : m1.1 115 = m.1 115 := ar.I (by decide)
    have e116 : m1.2.1 116 = m.2.1 116 := ar.J (by decide)
    have eb : mbr m1 = mbr m := funext fun f => by unfold mbr; rw [e115]
    refine ⟨ar, i1.fr ar (by decide), i4.fr91 ar i8 (by decide) (by decide) g6 (fun f hf z => by simp only [List.mem_cons, List.not_mem_nil, or_false] at z; omega), eb, ?_⟩
    have e1 : med m1 = med m := funext fun a => funext fun b => by unfold med mt mbd mth; rw [e110]
    have e2 : mw m1 = mw m := funext fun a => funext fun b => by unfold mw mwi; rw [e111, e112]
    have e3 : mmd m1 = mmd m := funext fun f => by
      unfold mmd
      rw [show mpt m1 (iI (f : Int)) 60 = mpt m (iI (f : Int)) 60 from funext fun q => mpt_fe e115 e116 _ _ _]
    funext p k
    unfold mwt mca
    rw [e1, e2, e3, eb, e115]
  refine S_csend m _ i1.1 i5 E C hE.1 hC.1 i4.2.1 i4.2.2.1 (fun k hk => (i4.1.stands k hk).2) (fun f hf hb => A_mid i4 hf (by rw [← A_br i4 hf]; exact hb)) (fun z => ?_) (fun z1 z2 m1 f1 g6 w1 nf => ?_) (fun z1 z2 m1 kk S f1 g6 w1 as a1 a2 => ?_)
  · refine S_msend m _ i1.2.1 E C hE.1 hE.2 (CR_of i4) (hmd i1 i4) (fun _ m1 f1 => ⟨rfl, ⟨_, rfl⟩, hI.scr (f1.sub (by decide) (by decide))⟩) (fun a b => ?_) (fun a b => ?_)
    · exfalso; omega
    · exfalso; omega
  · obtain ⟨ar, j1, r1, eb, ew⟩ := after f1 (by decide) g6
    have e93 : m1.1 93 = m.1 93 := f1.I (by decide)
    have fin : ∀ {B : List Nat} {m2 : am_M}, Fm B [] m1 m2 → (∀ a, a ∈ B → a ∈ [119, 124, 125, 127, 128, 129, 130]) → Inv m2 := by
      intro B m2 f2 hs
      have f2 : Fm [119, 124, 125, 127, 128, 129, 130] [] m1 m2 := f2.sub hs (fun _ z => z)
      refine hI.sd ((ar.sub (by decide)).tr (Ar.fm f2 (by decide) (by decide))) (by rw [f2.1 91 (by decide) (by decide)]; exact g6) (w1.fe (f2.1 5 (by decide) (by decide)) (f2.1 6 (by decide) (by decide)) (f2.2.1 8 (by decide)) (f2.1 87 (by decide) (by decide)) (f2.1 88 (by decide) (by decide)) (f2.1 90 (by decide) (by decide))) (fun j => by rw [f2.2.2.1 j (by simp), ar.I (by decide)]) (fun f hf => ?_)
      rw [f2.1 93 (by decide) (by decide), f2.1 126 (by decide) (by decide), e93, ar.I (by decide)]
      exact i6 f hf
    refine S_msend m1 _ j1.2.1 E C hE.1 r1.1.ever.2 (CR_of r1) (hmd j1 r1) (fun _ m2 f2 => ⟨rfl, ⟨_, rfl⟩, fin f2 (by decide)⟩) (fun a b m2 f2 _ => ⟨rfl, ⟨_, rfl⟩, fin f2 (by decide)⟩) (fun a b m2 kk S f2 as _ _ => ?_)
    exfalso
    rw [eb, ew, ← eN] at as
    exact nf kk (feas_w (fun p k hp hk w => (A_wt i1 i4 p k hp hk w.symm).symm) as.1).1
  · obtain ⟨ar, j1, r1, eb, ew⟩ := after f1 (by decide) g6
    refine S_msend m1 _ j1.2.1 E C hE.1 r1.1.ever.2 (CR_of r1) (hmd j1 r1) (fun w => ?_) (fun a b m2 f2 nf => ?_) (fun a b m2 kk' S' f2 as' b1 b2 => ?_)
    · exfalso
      rw [eb] at w
      omega
    · exfalso
      rw [eb, ew, ← eN] at nf
      exact nf kk (feas_w (fun p k hp hk w => A_wt i1 i4 p k hp hk w) as.1).1
    · rw [eb] at b1 b2
      rw [eb, ew, ← eN] at as'
      rw [← eN] at b1 b2
      have as2 := AS_w (fun p k hp hk w => A_wt i1 i4 p k hp hk w) as
      obtain ⟨eS, ek⟩ := AS_uq as2 as'
      have ebr : ∀ p, brn (mbr m) E p = brn (cbr m) E p := fun p => by
        unfold brn
        rw [kth_cong (fun q hq => A_br i4 hq)]
      refine ⟨by rw [eS], ⟨_, rfl⟩, hI.sd ((ar.sub (by decide)).tr (Ar.fm f2 (by decide) (by decide))) (by rw [f2.1 91 (by decide) (by decide)]; exact g6) (w1.fe (f2.1 5 (by decide) (by decide)) (f2.1 6 (by decide) (by decide)) (f2.2.1 8 (by decide)) (f2.1 87 (by decide) (by decide)) (f2.1 88 (by decide) (by decide)) (f2.1 90 (by decide) (by decide))) (fun j => by rw [f2.2.2.1 j (by simp), ar.I (by decide)]) (fun f hf => ?_)⟩
      rw [f2.1 93 (by decide) (by decide)]
      by_cases c : ∃ p, p < fb_ct (cbr m) E ∧ brn (cbr m) E p = f
      · obtain ⟨p, hp, e⟩ := c
        have x := a1 p hp
        have y := b1 p hp
        rw [ebr, e] at y
        rw [e] at x
        rw [x, y, ek p hp]
      · rw [a2 f hf (fun p hp e => c ⟨p, hp, e⟩), b2 f hf (fun p hp e => c ⟨p, hp, by rw [← ebr]; exact e⟩)]
