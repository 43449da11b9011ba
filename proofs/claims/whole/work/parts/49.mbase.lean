/-! ===== the reference: frames, counts, rows ===== -/
def Fm (A F : List Nat) (m m1 : am_M) : Prop := (∀ a, a ∉ A → a ≠ 109 → m1.1 a = m.1 a) ∧ (∀ a, a ∉ A → m1.2.1 a = m.2.1 a) ∧ (∀ j, j ∉ F → m1.1 109 j = m.1 109 j) ∧ m1.2.2 = m.2.2
theorem Fm.rf (A F : List Nat) (m : am_M) : Fm A F m m := ⟨fun _ _ _ => rfl, fun _ _ => rfl, fun _ _ => rfl, rfl⟩
theorem Fm.tr {A F : List Nat} {m m1 m2 : am_M} (h1 : Fm A F m m1) (h2 : Fm A F m1 m2) : Fm A F m m2 := ⟨fun a x y => (h2.1 a x y).trans (h1.1 a x y), fun a x => (h2.2.1 a x).trans (h1.2.1 a x), fun j x => (h2.2.2.1 j x).trans (h1.2.2.1 j x), h2.2.2.2.trans h1.2.2.2⟩
theorem Fm.sub {A F A' F' : List Nat} {m m1 : am_M} (h : Fm A F m m1) (hA : ∀ a, a ∈ A → a ∈ A') (hF : ∀ a, a ∈ F → a ∈ F') : Fm A' F' m m1 := ⟨fun a x y => h.1 a (fun z => x (hA a z)) y, fun a x => h.2.1 a (fun z => x (hA a z)), fun j x => h.2.2.1 j (fun z => x (hF j z)), h.2.2.2⟩
theorem Fm.pI {A F : List Nat} {m m1 : am_M} (h : Fm A F m m1) {a : Nat} (ha : a ∈ A) (h9 : a ≠ 109) (j : Nat) (v : Int32) : Fm A F m (am_pI m1 a j v) := ⟨fun b x y => (am_pI_ne (fun e => x (by rw [e]; exact ha))).trans (h.1 b x y), h.2.1, fun k x => by rw [am_pI_ne (fun e => h9 e.symm)]; exact h.2.2.1 k x, h.2.2.2⟩
theorem Fm.pJ {A F : List Nat} {m m1 : am_M} (h : Fm A F m m1) {a : Nat} (ha : a ∈ A) (j : Nat) (v : Int64) : Fm A F m (am_pJ m1 a j v) := ⟨h.1, fun b x => (am_pJ_ne (fun e => x (by rw [e]; exact ha))).trans (h.2.1 b x), h.2.2.1, h.2.2.2⟩
theorem Fm.pF {A F : List Nat} {m m1 : am_M} (h : Fm A F m m1) {j : Nat} (hj : j ∈ F) (v : Int32) : Fm A F m (am_pI m1 109 j v) := ⟨fun b x y => (am_pI_ne y).trans (h.1 b x y), h.2.1, fun k x => by rw [am_pI_at, if_neg (fun e => x (by rw [e]; exact hj))]; exact h.2.2.1 k x, h.2.2.2⟩
theorem Fm.L {A F : List Nat} {m m1 : am_M} (h : FrL m m1) (hF : ∀ a, a ∈ [6, 7, 8] → a ∈ F) : Fm A F m m1 := ⟨fun a _ y => h.1 a y, fun a _ => by rw [h.2.2], fun j x => h.2.1 j (fun e => x (hF j (by rw [e]; decide))) (fun e => x (hF j (by rw [e]; decide))) (fun e => x (hF j (by rw [e]; decide))), by rw [h.2.2]⟩
theorem Fm.S {A F : List Nat} {a lo hi : Nat} {m m1 : am_M} (h : FrS a lo hi m m1) (ha : a ∈ A) (hF : ∀ a, a ∈ [6, 7, 8] → a ∈ F) : Fm A F m m1 := ⟨fun a _ y => h.1 a y, fun b x => h.2.2.1 b (fun e => x (by rw [e]; exact ha)), fun j x => h.2.1 j (fun e => x (hF j (by rw [e]; decide))) (fun e => x (hF j (by rw [e]; decide))) (fun e => x (hF j (by rw [e]; decide))), h.2.2.2.2⟩
theorem Fm.k {A F : List Nat} {m m1 : am_M} (h : Fm A F m m1) (a : Nat) : am_k YL m1 a = am_k YL m a := by
  unfold am_k
  rw [h.2.2.2]
theorem Fm.R {A F : List Nat} {m m1 : am_M} (h : Fm A F m m1) (a j : Nat) : am_gR YL m1 a j = am_gR YL m a j := by
  unfold am_gR
  rw [h.2.2.2]
theorem Fm.th {A F : List Nat} {m m1 : am_M} (h : Fm A F m m1) (ha : 110 ∉ A) (r c : Int) : mth m1 r c = mth m r c := by
  unfold mth
  rw [h.1 110 ha (by decide)]
theorem Fm.mf {A F : List Nat} {m m1 : am_M} (h : Fm A F m m1) (ha : 110 ∉ A) (hb : 111 ∉ A) (f : Nat) (up : Int) (t : Nat) : mf m1 f up t = mf m f up t := by
  show fh (fun k => mth m1 _ _) (fun k => (m1.1 111 k).toInt) f up t = fh (fun k => mth m _ _) (fun k => (m.1 111 k).toInt) f up t
  rw [h.1 111 hb (by decide)]
  congr 1
  funext k
  exact h.th ha _ _
theorem i6 (x : Int32) : x = 6 ↔ x.toInt = 6 := ⟨fun e => by rw [e]; rfl, fun e => by rw [← iI_self x, e]; rfl⟩
theorem iI_b (x : Int32) : -2147483648 ≤ x.toInt ∧ x.toInt ≤ 2147483647 := ⟨by have := Int32.le_toInt x; omega, by have := Int32.toInt_lt x; omega⟩
/-- how many places have something -/
theorem S_places (m : am_M) (Q : Option Value → am_M → Prop) (h : Q (some (.int (iI (fb_ct (fun i => !decide (m.1 115 i = 6)) 60 : Int)))) m) : am_WP YL 178 0 0 0 [some (.ref 109), none, none] [] m Q := by
  refine B_X11_places_0 m Q ?_
  have := lp (N := 60) (W := fun k (_ : Unit) => am_WP YL 178 0 0 4 [some (.ref 109), some (.int (iI (fb_ct (fun i => !decide (m.1 115 i = 6)) k : Int))), some (.int (iI (k : Int)))] [] m Q) (fun _ _ => True) (s := ()) trivial ?_ ?_
  · exact this
  · intro k _ hk _ ih
    have ih := ih () trivial
    rw [fb_ct_succ] at ih
    refine B_X11_places_4 m Q _ _ ?_
    simp (disch := omega) only [iI_lit, iI_add, iI_le, iI_in, iI_cl, Int.zero_add, Int.toNat_natCast]
    refine ⟨fun z => by omega, fun _ => ⟨by omega, fun z => ?_, fun z => ?_⟩⟩
    · rw [decide_eq_true (show m.1 115 k = 6 from z)] at ih
      exact ih
    · rw [decide_eq_false (show ¬ m.1 115 k = 6 from z)] at ih
      exact ih
  · intro _ _
    refine B_X11_places_4 m Q _ _ ?_
    exact ⟨fun _ => h, fun z => absurd (show (60 : Int32) ≤ iI ((60 : Nat) : Int) by decide) z⟩
theorem S_free (m : am_M) (Q : Option Value → am_M → Prop) (h : Q (some (.int (iI (kth (fun i => decide (m.1 115 i = 6)) 0 60)))) m) : am_WP YL 179 0 0 0 [some (.ref 109), none] [] m Q := by
  refine B_X11_free_0 m Q ?_
  have := lp (N := 60) (W := fun k (_ : Unit) => am_WP YL 179 0 0 2 [some (.ref 109), some (.int (iI (k : Int)))] [] m Q) (fun k _ => fb_ct (fun i => decide (m.1 115 i = 6)) k = 0) (s := ()) rfl ?_ ?_
  · exact this
  · intro k _ hk hI ih
    have ih := ih ()
    rw [fb_ct_succ, hI] at ih
    refine B_X11_free_2 m Q _ ?_
    have e0 : ((0 : Int32) + iI (k : Int)).toNatClampNeg = k := by
      rw [show (0 : Int32) = iI 0 from rfl, iI_add, iI_cl (by omega) (by omega)]
      omega
    have e1 : vp_in ((0 : Int32) + iI (k : Int)) 350 := by
      rw [show (0 : Int32) = iI 0 from rfl, iI_add, iI_in (by omega) (by omega)]
      omega
    rw [e0, show ((60 : Int32) ≤ iI (k : Int)) ↔ (60 : Int) ≤ (k : Int) from iI_le (a := 60) (by omega) (by omega) (by omega) (by omega), iI_i1]
    refine ⟨fun z => by omega, fun _ => ⟨e1, fun z => ⟨fun y => by omega, fun _ => ?_⟩, fun z => ?_⟩⟩
    · rw [kth_at (q := k) (decide_eq_true z) (by rw [hI]; rfl) hk] at h
      exact h
    · rw [decide_eq_false z] at ih
      exact ih rfl
  · intro _ hI
    refine B_X11_free_2 m Q _ ?_
    refine ⟨fun _ => ⟨fun _ => ?_, fun z => absurd (show (60 : Int32) ≤ iI ((60 : Nat) : Int) by decide) z⟩, fun z => absurd (show (60 : Int32) ≤ iI ((60 : Nat) : Int) by decide) z⟩
    rw [kth_no (fun q hq h1 h2 => by
      have := fb_ct_zero.mp hI q hq
      rw [h1] at this
      cases this)] at h
    exact h
def msi (m : am_M) (i : Int) : Bool := decide (0 ≤ i ∧ i ≤ 59 ∧ (m.1 115 i.toNat).toInt < 5)
theorem S_msi (m : am_M) (Q : Option Value → am_M → Prop) (i : Int) (hbi : -2147483648 ≤ i ∧ i ≤ 2147483647) (h : Q (some (.int (bI (msi m i)))) m) : am_WP YL 180 0 0 0 [some (.ref 109), some (.int (iI i))] [] m Q := by
  refine B_X11_isSighting_0 m Q _ ?_
  refine S_isIn m _ i 0 59 (by omega) (by omega) (by omega) (by omega) (by omega) (by omega) ?_
  unfold msi at h
  unfold inR
  refine B_X11_isSighting_7 m Q _ _ (bz (fun z => ?_) (fun z => ?_))
  · rw [decide_eq_false (fun y => of_decide_eq_false z ⟨y.1, y.2.1⟩)] at h
    exact h
  · have z := of_decide_eq_true z
    have b := iI_b (m.1 115 i.toNat)
    rw [show (0 : Int32) = iI 0 from rfl, iI_add, iI_cl (by omega) (by omega), iI_in (by omega) (by omega), show (0 : Int) + i = i by omega, ← iI_self (m.1 115 i.toNat), show (5 : Int32) = iI 5 from rfl, iI_le (by omega) (by omega) (by omega) (by omega)]
    refine ⟨by omega, fun y => ?_, fun y => ?_⟩
    · rw [decide_eq_false (by omega)] at h
      exact h
    · rw [decide_eq_true (by omega)] at h
      exact h
/-! away -/
theorem S_away (m : am_M) (Q : Option Value → am_M → Prop) (h : ∀ m1, Fm [115, 126, 132] [5, 13] m m1 → m1.1 109 5 = 0 → m1.1 109 13 = 0 → (∀ k, k < 350 → m1.1 115 k = if k < 60 then 6 else if 180 ≤ k ∧ k < 240 then -1 else 0) → (∀ i, i < 60 → m1.1 132 i = -1) → (∀ f, f < 20 → m1.1 126 f = -1) → Q none m1) : am_WP YL 164 0 0 0 [some (.ref 109), none] [] m Q := by
  refine B_X11_away_0 m Q ?_
  have l3 : ∀ m0, Fm [115, 126, 132] [5, 13] m m0 → m0.1 109 5 = 0 → m0.1 109 13 = 0 → (∀ k, k < 350 → m0.1 115 k = if k < 60 then 6 else if 180 ≤ k ∧ k < 240 then -1 else 0) → (∀ i, i < 60 → m0.1 132 i = -1) → am_WP YL 164 0 0 76 [some (.ref 109), some (.int 0)] [] m0 Q := by
    intro m0 f0 a1 a2 a3 a4
    have := lp (N := 20) (W := fun k m1 => am_WP YL 164 0 0 76 [some (.ref 109), some (.int (iI (k : Int)))] [] m1 Q) (fun k m1 => Fm [115, 126, 132] [5, 13] m m1 ∧ m1.1 109 5 = 0 ∧ m1.1 109 13 = 0 ∧ (∀ k, k < 350 → m1.1 115 k = if k < 60 then 6 else if 180 ≤ k ∧ k < 240 then -1 else 0) ∧ (∀ i, i < 60 → m1.1 132 i = -1) ∧ (∀ f, f < k → m1.1 126 f = -1)) (s := m0) ⟨f0, a1, a2, a3, a4, fun f hf => absurd hf (Nat.not_lt_zero f)⟩ ?_ ?_
    · exact this
    · rintro k m1 hk ⟨f1, b1, b2, b3, b4, b5⟩ ih
      refine B_X11_away_76 m1 Q _ ?_
      simp (disch := omega) only [iI_lit, iI_ofNat, iI_neg, iI_add, iI_sub, iI_mul, iI_lt, iI_le, iI_eq, iI_in, iI_cl, Int.toNat_natCast]
      refine ⟨fun z => by omega, fun _ => ⟨by omega, ih _ ⟨f1.pI (by decide) (by decide) _ _, ?_, ?_, ?_, ?_, ?_⟩⟩⟩
      · rw [am_pI_ne (by decide)]; exact b1
      · rw [am_pI_ne (by decide)]; exact b2
      · rw [am_pI_ne (by decide)]; exact b3
      · rw [am_pI_ne (by decide)]; exact b4
      · intro f hf
        rw [am_pI_at]
        by_cases c : f = k
        · rw [if_pos c]; rfl
        · rw [if_neg c]; exact b5 f (by omega)
    · rintro m1 ⟨f1, b1, b2, b3, b4, b5⟩
      refine B_X11_away_76 m1 Q _ ?_
      exact ⟨fun _ => h m1 f1 b1 b2 b3 b4 b5, fun z => absurd (show (20 : Int32) ≤ iI ((20 : Nat) : Int) by decide) z⟩
  have l2 : ∀ m0, Fm [115, 126, 132] [5, 13] m m0 → m0.1 109 5 = 0 → (∀ k, k < 350 → m0.1 115 k = 0) → am_WP YL 164 0 0 29 [some (.ref 109), some (.int 0)] [] m0 Q := by
    intro m0 f0 a1 a3
    have := lp (N := 60) (W := fun k m1 => am_WP YL 164 0 0 29 [some (.ref 109), some (.int (iI (k : Int)))] [] m1 Q) (fun k m1 => Fm [115, 126, 132] [5, 13] m m1 ∧ m1.1 109 5 = 0 ∧ (∀ j, j < 350 → m1.1 115 j = if j < k then 6 else if 180 ≤ j ∧ j < 180 + k then -1 else 0) ∧ (∀ i, i < k → m1.1 132 i = -1)) (s := m0) ⟨f0, a1, fun j hj => by rw [if_neg (Nat.not_lt_zero j), if_neg (by omega)]; exact a3 j hj, fun f hf => absurd hf (Nat.not_lt_zero f)⟩ ?_ ?_
    · exact this
    · rintro k m1 hk ⟨f1, b1, b3, b4⟩ ih
      refine B_X11_away_29 m1 Q _ ?_
      simp (disch := omega) only [iI_lit, iI_add, iI_le, iI_in, iI_cl]
      refine ⟨fun z => by omega, fun _ => ⟨by omega, by omega, by omega, ih _ ⟨((f1.pI (by decide) (by decide) _ _).pI (by decide) (by decide) _ _).pI (by decide) (by decide) _ _, ?_, ?_, ?_⟩⟩⟩
      · rw [am_pI_ne (by decide), am_pI_ne (by decide), am_pI_ne (by decide)]; exact b1
      · intro j hj
        rw [am_pI_ne (by decide), am_pI_at, am_pI_at, b3 j hj]
        by_cases c : j = 180 + k
        · rw [if_pos (by omega), if_neg (by omega), if_pos (by omega)]; rfl
        · rw [if_neg (by omega)]
          by_cases c2 : j = k
          · rw [if_pos (by omega), if_pos (by omega)]; rfl
          · rw [if_neg (by omega)]
            by_cases c3 : j < k
            · rw [if_pos c3, if_pos (by omega)]
            · rw [if_neg c3, if_neg (show ¬ j < k + 1 by omega)]
              by_cases c4 : 180 ≤ j ∧ j < 180 + k
              · rw [if_pos c4, if_pos (by omega)]
              · rw [if_neg c4, if_neg (by omega)]
      · intro i hi
        rw [am_pI_at]
        by_cases c : i = k
        · rw [if_pos (by omega)]; rfl
        · rw [if_neg (by omega), am_pI_ne (by decide), am_pI_ne (by decide)]; exact b4 i (by omega)
    · rintro m1 ⟨f1, b1, b3, b4⟩
      refine B_X11_away_29 m1 Q _ ?_
      refine ⟨fun _ => l3 _ (f1.pF (by decide) _) ?_ ?_ ?_ ?_, fun z => absurd (show (60 : Int32) ≤ iI ((60 : Nat) : Int) by decide) z⟩
      · rw [am_pI_at, if_neg (by decide)]; exact b1
      · rw [am_pI_at, if_pos rfl]
      · rw [am_pI_ne (by decide)]; exact b3
      · rw [am_pI_ne (by decide)]; exact b4
  have := lp (N := 350) (W := fun k m1 => am_WP YL 164 0 0 7 [some (.ref 109), some (.int (iI (k : Int)))] [] m1 Q) (fun k m1 => Fm [115, 126, 132] [5, 13] m m1 ∧ m1.1 109 5 = 0 ∧ (∀ j, j < k → m1.1 115 j = 0)) (s := am_pI m 109 5 0) ⟨(Fm.rf _ _ m).pF (by decide) _, by rw [am_pI_at, if_pos rfl], fun f hf => absurd hf (Nat.not_lt_zero f)⟩ ?_ ?_
  · exact this
  · rintro k m1 hk ⟨f1, b1, b3⟩ ih
    refine B_X11_away_7 m1 Q _ ?_
    simp (disch := omega) only [iI_lit, iI_ofNat, iI_neg, iI_add, iI_sub, iI_mul, iI_lt, iI_le, iI_eq, iI_in, iI_cl, Int.toNat_natCast]
    refine ⟨fun z => by omega, fun _ => ⟨by omega, ih _ ⟨f1.pI (by decide) (by decide) _ _, ?_, ?_⟩⟩⟩
    · rw [am_pI_ne (by decide)]; exact b1
    · intro j hj
      rw [am_pI_at]
      by_cases c : j = k
      · rw [if_pos c]; rfl
      · rw [if_neg c]; exact b3 j (by omega)
  · rintro m1 ⟨f1, b1, b3⟩
    refine B_X11_away_7 m1 Q _ ?_
    exact ⟨fun _ => l2 m1 f1 b1 b3, fun z => absurd (show (350 : Int32) ≤ iI ((350 : Nat) : Int) by decide) z⟩
