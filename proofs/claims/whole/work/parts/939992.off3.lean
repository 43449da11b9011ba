/-! ===== office: the reference's run ===== -/
theorem R_row (m : am_M) (Q : Option Value → am_M → Prop) (E : Nat) (hE : E ≤ 20) (h348 : m.1 115 348 = iI (E : Int)) (i : Nat) (hi : i < 60) (c : Int32)
    (hno : fb_ct (fun g : Nat => mfits m (i : Int) (g : Int)) E ≠ 1 → ∀ m1, Fm [119] [] m m1 → am_WP YL 198 0 0 4 [some (.ref 109), some (.int c), some (.int (iI ((i + 1 : Nat) : Int))), none, none, none] [] m1 Q)
    (hyes : ∀ f : Nat, f < E → (∀ g : Nat, g < E → mfits m (i : Int) (g : Int) = decide (g = f)) → ∀ m1, Fm [119] [] m m1 → am_WP YL 195 0 0 0 [some (.ref 109), some (.int (iI (i : Int))), some (.int (iI (f : Int)))] [] m1 (fun r1 m2 => am_WP YL 198 0 0 76 [some (.ref 109), some (.int c), none, none, none, none] (am_pu r1 []) m2 Q)) :
    am_WP YL 198 0 0 18 [some (.ref 109), some (.int c), some (.int (iI (i : Int))), some (.int (-1)), some (.int 0), some (.int 0)] [] m Q := by
  have := lp (N := E) (W := fun k s => am_WP YL 198 0 0 18 [some (.ref 109), some (.int c), some (.int (iI (i : Int))), some (.int (iI (lst (fun g : Nat => mfits m (i : Int) (g : Int)) k))), some (.int (iI (fb_ct (fun g : Nat => mfits m (i : Int) (g : Int)) k : Int))), some (.int (iI (k : Int)))] [] s Q) (fun k s => Fm [119] [] m s) (s := m) (Fm.rf _ _ m) ?_ ?_
  · exact this
  · intro k s hk f1 ih
    have e348 : s.1 115 348 = iI (E : Int) := by rw [f1.1 115 (by decide) (by decide)]; exact h348
    refine B_X11_office_18 s Q _ _ _ _ _ ⟨fun z => ?_, fun _ => S_fits s _ E hE e348 (i : Int) (k : Int) (by omega) (by omega) (fun s1 f2 => B_X11_office_38 s1 Q _ _ _ _ _ _ ?_)⟩
    · rw [show (348 : Int32).toNatClampNeg = 348 from rfl, e348] at z
      exact absurd ((iI_le (by omega) (by omega) (by omega) (by omega)).mp z) (by omega)
    · rw [mfits_fr f1]
      have ih := ih s1 (f1.tr f2)
      rw [show lst (fun g : Nat => mfits m (i : Int) (g : Int)) (k + 1) = (if mfits m (i : Int) (k : Int) = true then (k : Int) else lst (fun g : Nat => mfits m (i : Int) (g : Int)) k) from rfl, fb_ct_succ] at ih
      rw [show (1 : Int32) = iI 1 from rfl, iI_add, iI_add]
      cases z : mfits m (i : Int) (k : Int) with
      | true =>
        rw [z, if_pos rfl] at ih
        exact ⟨fun _ => ih, fun w => absurd w (by decide)⟩
      | false =>
        rw [z, if_neg (by decide)] at ih
        exact ⟨fun w => absurd rfl w, fun _ => ih⟩
  · intro s f1
    have e348 : s.1 115 348 = iI (E : Int) := by rw [f1.1 115 (by decide) (by decide)]; exact h348
    have cb := fb_ct_le (fun g : Nat => mfits m (i : Int) (g : Int)) E
    refine B_X11_office_18 s Q _ _ _ _ _ ⟨fun _ => ?_, fun z => absurd ?_ z⟩
    · rw [show (1 : Int32) = iI 1 from rfl, iI_eq (by omega) (by omega) (by omega) (by omega), iI_add, iI_sub]
      refine ⟨fun z => ?_, fun z => hno (fun w => z (by omega)) s f1⟩
      obtain ⟨f, hf, hu⟩ := one_f (p := fun g : Nat => mfits m (i : Int) (g : Int)) (n := E) (by omega)
      have el : ∀ k, k ≤ E → lst (fun g : Nat => mfits m (i : Int) (g : Int)) k = if f < k then (f : Int) else -1 := by
        intro k
        induction k with
        | zero => exact fun _ => (if_neg (Nat.not_lt_zero f)).symm
        | succ k ih =>
          intro hk
          show (if mfits m (i : Int) (k : Int) = true then (k : Int) else lst (fun g : Nat => mfits m (i : Int) (g : Int)) k) = _
          rw [hu k (by omega), ih (by omega)]
          by_cases c : k = f
          · rw [if_pos (decide_eq_true c), if_pos (by omega), c]
          · rw [if_neg (fun w => c (of_decide_eq_true w))]
            by_cases d : f < k
            · rw [if_pos d, if_pos (by omega)]
            · rw [if_neg d, if_neg (by omega)]
      rw [el E (Nat.le_refl _), if_pos hf, show (i : Int) + 1 - 1 = (i : Int) by omega]
      exact hyes f hf hu s f1
    · rw [show (348 : Int32).toNatClampNeg = 348 from rfl, e348]
      exact (iI_le (by omega) (by omega) (by omega) (by omega)).mpr (Int.le_refl _)
/-- the reference's state is y's, as far as it counts -/
def RE (y z : am_M) : Prop := z.1 115 = y.1 115 ∧ z.2.1 116 = y.2.1 116 ∧ z.1 109 14 = y.1 109 14 ∧ z.1 109 13 = y.1 109 13 ∧ (∀ j, j < 50 → ∀ k, k < 350 → z.1 117 (350 * j + k) = y.1 117 (350 * j + k)) ∧ ∀ j, j < 50 → ∀ k, k < 240 → z.2.1 118 (240 * j + k) = y.2.1 118 (240 * j + k)
theorem RE.fm {y z z1 : am_M} (h : RE y z) (f : Fm [119] [] z z1) : RE y z1 := by
  unfold RE at h ⊢
  rw [f.1 115 (by decide) (by decide), f.2.1 116 (by decide), f.2.2.1 14 (by decide), f.2.2.1 13 (by decide), f.1 117 (by decide) (by decide), f.2.1 118 (by decide)]
  exact h
theorem RE.act {y z z2 : am_M} {i f lt sz : Nat} (h : RE y z) (ac : Acted z z2 lt sz) (s : ∀ k, z2.1 115 k = if k = 180 + i then iI (f : Int) else z.1 115 k) (e116 : z2.2.1 116 = z.2.1 116) : RE (rj y i f lt sz) z2 := by
  obtain ⟨h1, h2, h3, h4, h5, h6⟩ := h
  obtain ⟨a1, a2, a3, a4, a5, a6⟩ := ac
  obtain ⟨b1, b2, b3, b4, b5, b6⟩ := rj_ac y i f lt sz
  refine ⟨funext fun k => by rw [s, rj_115, h1], by rw [e116, rj_116, h2], by rw [a1, b1], by rw [a2, b2], fun j hj k hk => ?_, fun j hj k hk => ?_⟩
  · by_cases c : j = (lt + 1) % 50
    · rw [c, a3 k hk, b3 k hk, h1]
    · rw [a4 j hj c k hk, b4 j hj c k hk]
      exact h5 j hj k hk
  · by_cases c : j = (lt + 1) % 50
    · rw [c, a5 k hk, b5 k hk, h2]
    · rw [a6 j hj c k hk, b6 j hj c k hk]
      exact h6 j hj k hk
/-- scan on, as long as none has just one fit -/
theorem R_scan (Q : Option Value → am_M → Prop) {y : am_M} {E : Nat} (hE : E ≤ 20) (h348 : y.1 115 348 = iI (E : Int)) (c : Int32) (n : Nat) (hn : n ≤ 60) (no : ∀ j : Nat, j < n → fb_ct (fun g : Nat => mfits y (j : Int) (g : Int)) E ≠ 1) {z : am_M} (re : RE y z)
    (h : ∀ z1, Fm [119] [] z z1 → am_WP YL 198 0 0 4 [some (.ref 109), some (.int c), some (.int (iI (n : Int))), none, none, none] [] z1 Q) :
    am_WP YL 198 0 0 4 [some (.ref 109), some (.int c), some (.int 0), none, none, none] [] z Q := by
  have := lp (N := n) (W := fun k s => am_WP YL 198 0 0 4 [some (.ref 109), some (.int c), some (.int (iI (k : Int))), none, none, none] [] s Q) (fun k s => Fm [119] [] z s) (s := z) (Fm.rf _ _ z) ?_ (fun s f1 => h s f1)
  · exact this
  · intro k s hk f1 ih
    have r1 := re.fm f1
    refine B_X11_office_4 s Q _ _ ⟨fun w => absurd ((iI_le (a := 60) (by omega) (by omega) (by omega) (by omega)).mp w) (by omega), fun _ => R_row s Q E hE (by rw [r1.1]; exact h348) k (by omega) c (fun _ m1 f2 => ih m1 (f1.tr f2)) (fun f hf hu => ?_)⟩
    exfalso
    refine no k hk ?_
    have e : fb_ct (fun g : Nat => mfits y (k : Int) (g : Int)) E = fb_ct (fun g => if g = f then true else false) E := fb_ct_cong (fun g hg => by
      rw [← mfits_fe (m := y) (m1 := s) r1.1 r1.2.1, hu g hg]
      by_cases c : g = f
      · rw [if_pos c, decide_eq_true c]
      · rw [if_neg c, decide_eq_false c])
    have u := fb_ct_upd (fun _ => false) true hf
    rw [if_neg (by decide), if_pos rfl, fb_ct_zero.mpr (fun _ _ => rfl)] at u
    rw [e]
    exact u
theorem R_run (Q : Option Value → am_M → Prop) {y' : am_M} (he : oend y') (k : Nat) : ∀ (y z : am_M) (k0 : Nat), och k y y' → RE y z → (∀ z', RE y' z' → Fm [115, 117, 118, 119] [13, 14] z z' → Q (some (.int (iI ((k0 + k : Nat) : Int)))) z') → am_WP YL 198 0 0 4 [some (.ref 109), some (.int (iI (k0 : Int))), some (.int 0), none, none, none] [] z Q := by
  induction k with
  | zero =>
    intro y z k0 oc re h
    have oc : y' = y := oc
    subst oc
    obtain ⟨E, hE, h348, no⟩ := he
    refine R_scan Q hE h348 _ 60 (Nat.le_refl _) no re (fun z1 f1 => B_X11_office_4 z1 Q _ _ ⟨fun _ => h z1 (re.fm f1) (f1.sub (by decide) (by decide)), fun w => absurd (show (60 : Int32) ≤ iI ((60 : Nat) : Int) by decide) w⟩)
  | succ k ih =>
    intro y z k0 oc re h
    obtain ⟨y1, os, oc⟩ := oc
    obtain ⟨i, f, E, lt, sz, hi, hf, hE, h348, hu, no, h1, hl, hs, h14, h13, rfl⟩ := os
    refine R_scan Q hE h348 _ i (by omega) no re (fun z1 f1 => ?_)
    have r1 := re.fm f1
    have e1 : ∀ g : Int, mfits z1 (i : Int) g = mfits y (i : Int) g := fun g => mfits_fe r1.1 r1.2.1 _ _
    refine B_X11_office_4 z1 Q _ _ ⟨fun w => absurd ((iI_le (a := 60) (by omega) (by omega) (by omega) (by omega)).mp w) (by omega), fun _ => R_row z1 Q E hE (by rw [r1.1]; exact h348) i hi _ (fun w => ?_) (fun f' hf' hu' z2 f2 => ?_)⟩
    · exfalso
      refine w ?_
      have e : fb_ct (fun g : Nat => mfits z1 (i : Int) (g : Int)) E = fb_ct (fun g => if g = f then true else false) E := fb_ct_cong (fun g hg => by
        rw [e1, hu g hg]
        by_cases c : g = f
        · rw [if_pos c, decide_eq_true c]
        · rw [if_neg c, decide_eq_false c])
      have u := fb_ct_upd (fun _ => false) true hf
      rw [if_neg (by decide), if_pos rfl, fb_ct_zero.mpr (fun _ _ => rfl)] at u
      rw [e]
      exact u
    · have ff : f = f' := by
        have a := hu' f hf
        rw [e1, hu f hf, decide_eq_true (show f = f from rfl)] at a
        exact of_decide_eq_true a.symm
      subst ff
      have r2 := r1.fm f2
      have ft : mfits z2 (i : Int) (f : Int) = true := by
        rw [mfits_fe (m := y) (m1 := z2) r2.1 r2.2.1, hu f hf, decide_eq_true rfl]
      refine S_mjoin z2 _ E hE (by rw [r2.1]; exact h348) lt sz hl hs (by rw [r2.2.2.1]; exact h14) (by rw [r2.2.2.2.1]; exact h13) (i : Int) (f : Int) (by omega) (by omega) (fun w => by rw [ft] at w; cases w) (fun _ z3 f3 ac s => B_X11_office_76 z3 Q _ _ ?_)
      rw [Int.toNat_natCast] at s
      have r3 := r2.act ac s (f3.2.1 116 (by decide))
      rw [show (1 : Int32) = iI 1 from rfl, iI_add, show (k0 : Int) + 1 = ((k0 + 1 : Nat) : Int) by omega]
      refine ih _ z3 (k0 + 1) oc r3 (fun z' re' f' => ?_)
      rw [show k0 + 1 + k = k0 + (k + 1) by omega]
      exact h z' re' ((f1.sub (by decide) (by decide)).tr ((f2.sub (by decide) (by decide)).tr ((f3.sub (by decide) (by decide)).tr f')))
theorem Hist.fr2 {A : List Nat} {m m2 : am_M} {tp sz lt : Nat} {c : Co} (hH : Hist m tp sz lt c) (hn : 130 ≤ am_n m) (f97 : m2.1 97 = m.1 97) (f98 : m2.1 98 = m.1 98) (f99 : m2.1 99 = m.1 99) (f100 : m2.1 100 = m.1 100) (f101 : ∀ j, am_gR YL m2 101 j = am_gR YL m 101 j) (f117 : ∀ j, j < 50 → ∀ k, k < 350 → m2.1 117 (350 * j + k) = m.1 117 (350 * j + k)) (f118 : ∀ j, j < 50 → ∀ k, k < 240 → m2.2.1 118 (240 * j + k) = m.2.1 118 (240 * j + k)) (f13 : m2.1 109 13 = m.1 109 13) (f14 : m2.1 109 14 = m.1 109 14) (gr : Gr A m m2) (hA : ∀ a, a ∈ A → a < 133) (h8 : 8 ∉ A) : Hist m2 tp sz lt c := by
  obtain ⟨t1, t2, t3, t4, t5, t6, t7, t8⟩ := hH
  have ch : ∀ j, chn m2 tp c j = chn m tp c j := chn_fr f98 f99 f100 f101 _ _
  refine ⟨t1, t2, t3, by rw [f97]; exact t4, by rw [f97]; exact t5, by rw [f13]; exact t6, by rw [f14]; exact t7, fun j hj => ?_⟩
  obtain ⟨v1, v2⟩ := t8 j hj
  refine ⟨by rw [f98, f99, f100, f101, ch]; exact v1, ?_⟩
  rw [ch]
  exact RC.sz (fun k hk => f117 _ (Nat.mod_lt _ (by decide)) k hk) (fun k hk => f118 _ (Nat.mod_lt _ (by decide)) k hk) (v2.gr gr hn hA h8)
theorem RN.fr115 {A : List Nat} {m m2 : am_M} (h : Ar A m m2) (hn : 130 ≤ am_n m) (hA : ∀ a, a ∈ A → a < 133) (hK : ∀ a, a ∈ [8, 34, 35, 36, 38, 39, 40, 41, 91, 92] → a ∉ A) (e115 : m2.1 115 = m.1 115) (e116 : m2.2.1 116 = m.2.1 116) (hP : ∀ f, f < 20 → 48 + 2 * f ∉ A) {E C : Nat} (hR : RN m E C) : RN m2 E C := by
  have hB := hR.bk
  have hE := hR.1.ever.1
  have e36 := h.I (hK 36 (by decide))
  have rc : RC m2 (core m2 E C) (m2.1 115) (m2.2.1 116) := by
    rw [core_fr h (fun a ha => hK a (by simp only [List.mem_cons, List.not_mem_nil, or_false] at ha ⊢; omega)), e115, e116]
    exact RC.gr (Gr.ar h) hn hA (hK 8 (by decide)) (show RC m (core m E C) (m.1 115) (m.2.1 116) from hR.1)
  have e35 : ∀ k, am_gR YL m2 35 k = am_gR YL m 35 k := fun k => h.R (hK 35 (by decide)) k
  have pe : ∀ F, cnt m2 F = cnt m F ∧ ∀ q, pat m2 F q = pat m F q := fun F => by
    have p := pat_e (m := m) (m2 := m2) (F := F) (fun k _ => by rw [e36])
    exact ⟨p.1, fun q => p.2 q (fun k hk _ => has_fr h hA (hK 35 (by decide)) hB k q)⟩
  refine ⟨rc, by rw [h.I (hK 38 (by decide))]; exact hR.2.1, by rw [h.I (hK 91 (by decide))]; exact hR.2.2.1, ?_, fun f hf => ?_, fun f hf q hq => ?_⟩
  · rw [h.I (hK 34 (by decide)), hR.2.2.2.1, show (fun i => (am_gR YL m2 35 i).isSome) = fun i => (am_gR YL m 35 i).isSome from funext fun i => by rw [e35]]
  · rw [h.I (hK 41 (by decide)), (pe _).1]
    exact hR.2.2.2.2.1 f hf
  · rw [h.J (hP f (by omega)), (pe _).2]
    exact hR.2.2.2.2.2 f hf q hq
theorem P_office {m : am_M} (hI : Inv m) : Pr 128 [some (.ref 3), none, none, none] 198 [some (.ref 109), none, none, none, none, none] m := by
  refine S_coffice _ hI (fun k x y hk ax oc oe hy => B_X11_office_0 x _ (R_run _ oe k m x 0 oc ⟨?_, ?_, ?_, ?_, ?_, ?_⟩ (fun z re f2 => ⟨?_, ⟨_, rfl⟩, ?_⟩)))
  · rw [ax.I (by decide)]
  · rw [ax.J (by decide)]
  · rw [ax.I (by decide)]
  · rw [ax.I (by decide)]
  · rw [ax.I (by decide)]
    exact fun _ _ _ _ => rfl
  · rw [ax.J (by decide)]
    exact fun _ _ _ _ => rfl
  · rw [Nat.zero_add]
  · have fy := och_fm k m y oc
    have fa : ∀ a, 109 ≤ a → a < 133 → a ∉ 36 :: 97 :: 98 :: 99 :: 100 :: 101 :: TP := fun a h1 h2 z => by
      have : ∀ b, b ∈ 36 :: 97 :: 98 :: 99 :: 100 :: 101 :: TP → b < 109 := by decide
      have := this a z
      omega
    obtain ⟨n, E, C, tp, sz, lt, i1, i2, i3, i4, i5, i6, i7, i8, i9⟩ := hy
    have aw : Ar [109, 115, 116, 117, 118, 119] (mg x y) z := by
      refine ⟨fun a ha => ?_, f2.2.2.2 ▸ rfl⟩
      have n9 : a ≠ 109 := fun e => ha (by rw [e]; decide)
      have h1 : a ∉ [115, 117, 118, 119] := fun w => ha ((show ∀ b, b ∈ [115, 117, 118, 119] → b ∈ [109, 115, 116, 117, 118, 119] by decide) a w)
      have h2 : a ∉ [115, 117, 118] := fun w => ha ((show ∀ b, b ∈ [115, 117, 118] → b ∈ [109, 115, 116, 117, 118, 119] by decide) a w)
      have e3 : z.2.2.1 a = (mg x y).2.2.1 a := by rw [f2.2.2.2]; rfl
      rw [f2.1 a h1 n9, f2.2.1 a h1, e3]
      by_cases c : 109 ≤ a ∧ a < 133
      · rw [(mg_i x y c).1, (mg_i x y c).2, fy.1 a h2 n9, fy.2.1 a h2, ax.I (fa a c.1 c.2), ax.J (fa a c.1 c.2)]
        exact ⟨rfl, rfl, rfl⟩
      · rw [(mg_o x y c).1, (mg_o x y c).2]
        exact ⟨rfl, rfl, rfl⟩
    have lt133 : ∀ a, a ∈ [109, 115, 116, 117, 118, 119] → a < 133 := by decide
    have m109 : (mg x y).1 109 = y.1 109 := (mg_i x y (by omega)).1
    have m115 : (mg x y).1 115 = y.1 115 := (mg_i x y (by omega)).1
    have m116 : (mg x y).2.1 116 = y.2.1 116 := (mg_i x y (by omega)).2
    have m117 : (mg x y).1 117 = y.1 117 := (mg_i x y (by omega)).1
    have m118 : (mg x y).2.1 118 = y.2.1 118 := (mg_i x y (by omega)).2
    obtain ⟨r1, r2, r3, r4, r5, r6⟩ := re
    have g5 : z.1 109 5 = (mg x y).1 109 5 := by
      rw [f2.2.2.1 5 (by decide), m109, fy.2.2.1 5 (by decide), ax.I (by decide)]
    refine ⟨n, E, C, tp, sz, lt, i1.fr aw (by decide), ?_, i3.fr (aw.I (by decide)) (aw.J (by decide)) (aw.I (by decide)) (aw.I (by decide)) (aw.I (by decide)) (aw.I (by decide)) (aw.J (by decide)) (fun t ht => aw.J (fun z => by simp only [List.mem_cons, List.not_mem_nil, or_false] at z; omega)) (aw.I (by decide)) (aw.I (by decide)) g5, i4.fr115 aw i8 lt133 (by decide) (by rw [m115]; exact r1) (by rw [m116]; exact r2) (fun f hf z => by simp only [List.mem_cons, List.not_mem_nil, or_false] at z; omega), i5.fe (aw.I (by decide)) (aw.I (by decide)) (aw.J (by decide)) (aw.I (by decide)) (aw.I (by decide)) (aw.I (by decide)), ?_, ?_, by rw [aw.n]; exact i8, ?_⟩
    · unfold LK at i2 ⊢
      rw [aw.I (a := 0) (by decide), aw.I (a := 1) (by decide)]
      exact i2
    · rw [aw.I (a := 93) (by decide), aw.I (a := 126) (by decide)]
      exact i6
    · rw [aw.I (a := 37) (by decide), aw.I (a := 132) (by decide)]
      exact i7
    · rw [core_fr aw (by decide)]
      exact i9.fr2 i8 (aw.I (by decide)) (aw.I (by decide)) (aw.I (by decide)) (aw.I (by decide)) (fun j => aw.R (by decide) j) (by rw [m117]; exact r5) (by rw [m118]; exact r6) (by rw [m109]; exact r4) (by rw [m109]; exact r3) (Gr.ar aw) lt133 (by decide)
