/-! ===== office: the class's run ===== -/
/-- one step of the office -/
def ost (y y' : am_M) : Prop := ∃ i f E lt sz : Nat, i < 60 ∧ f < E ∧ E ≤ 20 ∧ y.1 115 348 = iI (E : Int) ∧ (∀ g : Nat, g < E → mfits y (i : Int) (g : Int) = decide (g = f)) ∧ (∀ j : Nat, j < i → fb_ct (fun g : Nat => mfits y (j : Int) (g : Int)) E ≠ 1) ∧ y.1 115 (180 + i) = -1 ∧ lt < 50 ∧ sz ≤ 50 ∧ y.1 109 14 = iI (lt : Int) ∧ y.1 109 13 = iI (sz : Int) ∧ y' = rj y i f lt sz
def och : Nat → am_M → am_M → Prop
  | 0, y, y' => y' = y
  | k + 1, y, y' => ∃ y1, ost y y1 ∧ och k y1 y'
theorem och_s : ∀ k y y1 y2, och k y y1 → ost y1 y2 → och (k + 1) y y2
  | 0, y, y1, y2, h, hs => by
    have h : y1 = y := h
    exact ⟨y2, by rw [← h]; exact hs, rfl⟩
  | k + 1, y, y1, y2, ⟨z, h1, h2⟩, hs => ⟨z, h1, och_s k z y1 y2 h2 hs⟩
theorem ost_fm {y y' : am_M} (h : ost y y') : Fm [115, 117, 118] [13, 14] y y' := by
  obtain ⟨i, f, E, lt, sz, _, _, _, _, _, _, _, _, _, _, _, rfl⟩ := h
  exact rj_fm y i f lt sz
theorem och_fm : ∀ k y y', och k y y' → Fm [115, 117, 118] [13, 14] y y'
  | 0, y, y', h => by
    have h : y' = y := h
    rw [h]
    exact Fm.rf _ _ y
  | k + 1, y, y', ⟨z, h1, h2⟩ => (ost_fm h1).tr (och_fm k z y' h2)
/-- how many are joined -/
def ojn (y : am_M) : Nat := fb_ct (fun i => !decide (y.1 115 (180 + i) = -1)) 60
theorem ost_jn {y y' : am_M} (h : ost y y') : ojn y' = ojn y + 1 := by
  obtain ⟨i, f, E, lt, sz, hi, hf, hE, _, _, _, h1, _, _, _, _, rfl⟩ := h
  unfold ojn
  have u := fb_ct_upd (fun i => !decide (y.1 115 (180 + i) = -1)) true hi
  have e1 : ¬ (!decide (y.1 115 (180 + i) = -1)) = true := by rw [decide_eq_true h1]; decide
  rw [if_neg e1, if_pos rfl] at u
  have e2 : fb_ct (fun j => !decide ((rj y i f lt sz).1 115 (180 + j) = -1)) 60 = fb_ct (fun k => if k = i then true else !decide (y.1 115 (180 + k) = -1)) 60 := fb_ct_cong (fun k _ => by
    rw [rj_115]
    by_cases c : k = i
    · rw [if_pos c, if_pos (by omega), decide_eq_false (iIn (show f < 21 by omega))]
      rfl
    · rw [if_neg c, if_neg (by omega)])
  rw [e2]
  exact u
theorem och_jn : ∀ k y y', och k y y' → ojn y' = ojn y + k
  | 0, y, y', h => by
    have h : y' = y := h
    rw [h]
    rfl
  | k + 1, y, y', ⟨z, h1, h2⟩ => by
    rw [och_jn k z y' h2, ost_jn h1]
    omega
/-- no one left -/
def oend (y : am_M) : Prop := ∃ E : Nat, E ≤ 20 ∧ y.1 115 348 = iI (E : Int) ∧ ∀ j : Nat, j < 60 → fb_ct (fun g : Nat => mfits y (j : Int) (g : Int)) E ≠ 1
theorem oend_all {y : am_M} {E : Nat} (hE : E ≤ 20) (h : y.1 115 348 = iI (E : Int)) (hj : ojn y = 60) : oend y := by
  refine ⟨E, hE, h, fun j hj' => ?_⟩
  have a := fb_ct_all.mp hj j hj'
  have z : fb_ct (fun g : Nat => mfits y (j : Int) (g : Int)) E = 0 := fb_ct_zero.mpr (fun g _ => by
    unfold mfits
    rw [Int.toNat_natCast, Int.toNat_natCast]
    have : decide (y.1 115 (180 + j) = -1) = false := by
      cases c : decide (y.1 115 (180 + j) = -1)
      · rfl
      · rw [c] at a
        cases a
    rw [this, Bool.false_and, Bool.and_false, Bool.and_false, Bool.and_false])
  rw [z]
  decide
theorem one_f {p : Nat → Bool} {n : Nat} (h : fb_ct p n = 1) : ∃ f, f < n ∧ ∀ g, g < n → p g = decide (g = f) := by
  obtain ⟨f, hf, hp⟩ := fb_ct_pos.mp (show 0 < fb_ct p n by omega)
  refine ⟨f, hf, fun g hg => ?_⟩
  by_cases c : g = f
  · rw [c, hp, decide_eq_true rfl]
  · rw [decide_eq_false c]
    cases hg' : p g with
    | false => rfl
    | true =>
      exfalso
      have u := fb_ct_upd p false hf
      rw [if_pos hp, if_neg (by decide)] at u
      have z : fb_ct (fun k => if k = f then false else p k) n = 0 := by omega
      have := fb_ct_zero.mp z g hg
      rw [if_neg c, hg'] at this
      cases this
theorem JS.fr {A : List Nat} {m m1 : am_M} (h : Ar A m m1) (hA : ∀ a, a ∈ A → a < 133) (h35 : 35 ∉ A) (h36 : 36 ∉ A) (hB : BK m) (hJ : JS m) : JS m1 := fun i hi z => by
  rw [h.I h36] at z
  rw [csq_fr h hA h35 hB]
  exact hJ i hi z
theorem S_coffice {m : am_M} (Q : Option Value → am_M → Prop) (hI : Inv m) (h : ∀ k x y, k ≤ 60 → Ar (36 :: 97 :: 98 :: 99 :: 100 :: 101 :: TP) m x → och k m y → oend y → Inv (mg x y) → Q (some (.int (iI (k : Int)))) x) : am_WP YL 128 0 0 0 [some (.ref 3), none, none, none] [] m Q := by
  refine B_X10_office_0 m Q ?_
  have := lp (N := 60) (W := fun k x => am_WP YL 128 0 0 4 [some (.ref 3), some (.int (iI (k : Int))), some (.int (iI (k : Int))), none] [] x Q) (fun k x => ∃ y, Ar (36 :: 97 :: 98 :: 99 :: 100 :: 101 :: TP) m x ∧ och k m y ∧ Inv (mg x y)) (s := m) ⟨m, Ar.rf _ m, rfl, by rw [mg_id]; exact hI⟩ ?_ ?_
  · exact this
  · rintro k x hk ⟨y, ax, oc, hy⟩ ih
    obtain ⟨n, E, C, tp, sz, lt, i1, i2, i3, i4, i5, i6, i7, i8, i9⟩ := id hy
    have h9 := i9
    obtain ⟨t1, t2, t3, t4, t5, t6, t7, _⟩ := h9
    have hE := i4.1.ever
    have ra := mg_ra x y
    have lt133 : ∀ a, a ∈ MRL → a < 133 := fun a ha => (MRL_b a ha).2
    have hB : BK x := i4.bk.fr ra lt133 (by decide)
    have e36 : (mg x y).1 36 = x.1 36 := (mg_o x y (by omega)).1
    have e38 : (mg x y).1 38 = x.1 38 := (mg_o x y (by omega)).1
    have e97 : (mg x y).1 97 = x.1 97 := (mg_o x y (by omega)).1
    have e115 : (mg x y).1 115 = y.1 115 := (mg_i x y (by omega)).1
    have e109 : (mg x y).1 109 = y.1 109 := (mg_i x y (by omega)).1
    have e116 : (mg x y).2.1 116 = y.2.1 116 := (mg_i x y (by omega)).2
    have hJB : JB x := by
      have := i4.jb
      unfold JB at this ⊢
      rw [e36] at this
      exact this
    have hJ : JS x := i4.js.fr ra lt133 (by decide) (by decide) i4.bk
    have h8 : x.1 38 8 = iI (E : Int) := by rw [← e38]; exact i4.2.1
    have yE : y.1 115 348 = iI (E : Int) := by rw [← e115]; exact hE.2
    have ecf : ∀ (i : Int) f, f < E → cfp x i f = mfits y i (f : Int) := fun i f hf => by
      rw [cfp_fr ra lt133 (by decide) i4.bk i (fun z => by have := MRL_b _ z; omega), i4.fit i hf, mfits_fe e115 e116]
    have efm : ∀ (i : Int) q, (fmk (cfp x i) E).testBit q = (decide (q < E) && mfits y i (q : Int)) := fun i q => by
      rw [fmk_tb]
      by_cases c : q < E
      · rw [ecf i q c]
      · rw [decide_eq_false c, Bool.false_and, Bool.false_and]
    have ecn : ∀ (i : Int), fb_ct (fun q => (fmk (cfp x i) E).testBit q) 32 = fb_ct (fun g => mfits y i (g : Int)) E := fun i => by
      have s := fb_ct_split (fun q => (fmk (cfp x i) E).testBit q) E (32 - E)
      rw [show E + (32 - E) = 32 by omega] at s
      have e1 : fb_ct (fun q => (fmk (cfp x i) E).testBit q) E = fb_ct (fun g : Nat => mfits y i (g : Int)) E := fb_ct_cong (fun q hq => by rw [efm, decide_eq_true hq, Bool.true_and])
      have e2 : fb_ct (fun k => (fmk (cfp x i) E).testBit (E + k)) (32 - E) = 0 := fb_ct_zero.mpr (fun q _ => by rw [efm, decide_eq_false (by omega), Bool.false_and])
      rw [s, e1, e2, Nat.add_zero]
    have eo : ∀ i : Nat, one1 x E i = decide (fb_ct (fun g : Nat => mfits y (i : Int) (g : Int)) E = 1) := fun i => by
      unfold one1
      rw [ecn]
    refine B_X10_office_4 x Q _ _ ⟨fun z => absurd ((iI_le (a := 60) (by omega) (by omega) (by omega) (by omega)).mp z) (by omega), fun _ => S_firstOne x _ hB hJB E hE.1 h8 ?_⟩
    rcases kth_of (p := one1 x E) (n := 60) with z | ⟨i, hi, z, hp⟩
    · rw [z]
      refine B_X10_office_14 x Q _ _ _ ⟨fun w => absurd rfl w, fun _ => h k x y (by omega) ax oc ⟨E, hE.1, yE, fun j hj w => ?_⟩ hy⟩
      have : 0 < fb_ct (one1 x E) 60 := fb_ct_pos.mpr ⟨j, hj, by rw [eo]; exact decide_eq_true w⟩
      obtain ⟨q, h1, h2, h3⟩ := fb_ct_kth this
      rw [kth_at h2 (by rw [h3]; rfl) h1] at z
      omega
    · rw [z]
      have c1 : fb_ct (fun g : Nat => mfits y (i : Int) (g : Int)) E = 1 := by
        rw [eo] at hp
        exact of_decide_eq_true hp
      obtain ⟨f, hf, hu⟩ := one_f c1
      have ft : mfits y (i : Int) (f : Int) = true := by rw [hu f hf, decide_eq_true rfl]
      have fst : ∀ j : Nat, j < i → fb_ct (fun g : Nat => mfits y (j : Int) (g : Int)) E ≠ 1 := fun j hj w => by
        have : 0 < fb_ct (one1 x E) 60 := fb_ct_pos.mpr ⟨i, hi, hp⟩
        obtain ⟨q, h1, h2, h3⟩ := fb_ct_kth this
        rw [kth_at h2 (by rw [h3]; rfl) h1] at z
        have qi : q = i := by omega
        rw [qi] at h3
        have := fb_ct_zero.mp h3 j hj
        rw [eo, decide_eq_true w] at this
        cases this
      have lt2 := fmk_lt (cfp x (i : Int)) E
      have p20 : 2 ^ E ≤ 2 ^ 20 := Nat.pow_le_pow_right (by decide) hE.1
      refine B_X10_office_14 x Q _ _ _ ⟨fun _ => S_fitting x _ hB hJB E hE.1 h8 (i : Int) (by omega) (B_X10_office_33 x Q _ _ _ _ (S_lowestBit x _ _ (by omega) (B_X10_office_36 x Q _ _ _ _ ?_))), fun w => absurd ((iI_eq (b := -1) (by omega) (by omega) (by omega) (by omega)).mp w) (by omega)⟩
      have ek : kth (fun q => (fmk (cfp x (i : Int)) E).testBit q) 0 20 = (f : Int) := by
        refine kth_at (q := f) (by rw [efm, decide_eq_true hf, Bool.true_and, ft]) ?_ (by omega)
        rw [fb_ct_zero.mpr (fun q hq => by rw [efm, decide_eq_true (show q < E by omega), Bool.true_and, hu q (by omega), decide_eq_false (by omega)])]
        rfl
      rw [ek]
      have ftm : mfits (mg x y) (i : Int) (f : Int) = true := by rw [mfits_fe e115 e116]; exact ft
      unfold mfits at ftm
      obtain ⟨y1, ftm⟩ := Bool.and_eq_true_iff.mp ftm
      have y4 := of_decide_eq_true (Bool.and_eq_true_iff.mp (Bool.and_eq_true_iff.mp (Bool.and_eq_true_iff.mp ftm).2).2).1
      rw [Int.toNat_natCast, e115] at y4
      obtain ⟨e, sq, _, _, hc, _⟩ := i4.sqs hi y1
      have hcf : cfo x (f : Int) = true := by
        have : cfo (mg x y) (f : Int) = true := by rw [(i4.fo _).1]; exact (i4.fo _).2.mpr (by omega)
        unfold cfo at this ⊢
        rw [e38] at this
        exact this
      refine S_unite x _ hB hJ tp sz t1 t2 (by rw [← e97]; exact t4) (by rw [← e97]; exact t5) i hi f hcf ⟨sq, by rw [csq_fr ra lt133 (by decide) i4.bk]; exact hc⟩ (fun x0 x' rr k1 => B_X10_office_39 x' Q _ _ ?_)
      rw [show (1 : Int32) = iI 1 from rfl, iI_add]
      refine ih x' ⟨rj y i f lt sz, ?_, och_s k m y _ oc ⟨i, f, E, lt, sz, hi, hf, hE.1, yE, hu, fst, y4, t3, t2, by rw [← e109]; exact t7, by rw [← e109]; exact t6, rfl⟩, off_step i1 i2 i3 i4 i5 i6 i7 i8 i9 hi hf ft rr k1⟩
      have a1 : Ar (36 :: 97 :: 98 :: 99 :: 100 :: 101 :: TP) x (am_pI x 36 i (iI (f : Int))) := (Ar.rf _ x).pI (by decide) _ _
      exact ax.tr ((a1.tr ((rr.ar (by omega)).sub (by decide))).tr (k1.1.sub (by decide)))
  · rintro x ⟨y, ax, oc, hy⟩
    obtain ⟨n, E, C, tp, sz, lt, i1, i2, i3, i4, i5, i6, i7, i8, i9⟩ := id hy
    have hE := i4.1.ever
    have e115 : (mg x y).1 115 = y.1 115 := (mg_i x y (by omega)).1
    have yE : y.1 115 348 = iI (E : Int) := by rw [← e115]; exact hE.2
    refine B_X10_office_4 x Q _ _ ⟨fun _ => h 60 x y (by omega) ax oc (oend_all hE.1 yE ?_) hy, fun z => absurd (show (60 : Int32) ≤ iI ((60 : Nat) : Int) by decide) z⟩
    have a := och_jn 60 m y oc
    have b : ojn y ≤ 60 := fb_ct_le _ 60
    omega
