/-! ===== the reference: patches, fits ===== -/
def mjn (m : am_M) (f : Int32) (i : Nat) : Bool := msi m (i : Int) && decide (m.1 115 (180 + i) = f)
def mal (m : am_M) (f : Int32) : Nat → Nat → Bool
  | 0, _ => true
  | k + 1, q => mal m f k q && (!mjn m f k || wb (mv m 116 k) q)
def mpt (m : am_M) (f : Int32) (k q : Nat) : Bool := decide (0 < fb_ct (mjn m f) k) && mal m f k q
theorem msi_fr {A F : List Nat} {m m1 : am_M} (h : Fm A F m m1) (ha : 115 ∉ A) (i : Int) : msi m1 i = msi m i := by
  unfold msi
  rw [h.1 115 ha (by decide)]
theorem S_mpatch (m : am_M) (Q : Option Value → am_M → Prop) (f : Int32) (h : ∀ m1, Fm [119] [] m m1 → (∀ q, q < 256 → wb (mv m1 119 0) q = mpt m f 60 q) → Q (some (.int (iI (fb_ct (mjn m f) 60 : Int)))) m1) : am_WP YL 190 0 0 0 [some (.ref 109), some (.int f), none, none, none] [] m Q := by
  refine B_X11_patchOf_0 m Q _ ?_
  have main : ∀ m0, Fm [119] [] m m0 → (∀ q, q < 256 → wb (mv m0 119 0) q = false) → am_WP YL 190 0 0 24 [some (.ref 109), some (.int f), some (.int (iI ((0 : Nat) : Int))), some (.int (iI ((0 : Nat) : Int))), none] [] m0 Q := by
    intro m0 f0 w0
    have := lp (N := 60) (W := fun k m1 => am_WP YL 190 0 0 24 [some (.ref 109), some (.int f), some (.int (iI (fb_ct (mjn m f) k : Int))), some (.int (iI (k : Int))), none] [] m1 Q) (fun k m1 => Fm [119] [] m m1 ∧ ∀ q, q < 256 → wb (mv m1 119 0) q = mpt m f k q) (s := m0) ⟨f0, fun q hq => by rw [w0 q hq]; rfl⟩ ?_ ?_
    · exact this
    · rintro k m1 hk ⟨f1, w1⟩ ih
      have lc := fb_ct_le (mjn m f) k
      have skip : mjn m f k = false → am_WP YL 190 0 0 24 [some (.ref 109), some (.int f), some (.int (iI (fb_ct (mjn m f) k : Int))), some (.int (iI ((k : Int) + 1))), none] [] m1 Q := by
        intro z
        have e : fb_ct (mjn m f) (k + 1) = fb_ct (mjn m f) k := by rw [fb_ct_succ, z]; rfl
        have := ih m1 ⟨f1, fun q hq => by
          rw [w1 q hq]
          unfold mpt
          rw [e]
          show _ = (decide _ && (mal m f k q && (!mjn m f k || _)))
          rw [z, Bool.not_false, Bool.true_or, Bool.and_true]⟩
        rw [e] at this
        exact this
      refine B_X11_patchOf_24 m1 Q _ _ _ ⟨fun z => absurd ((iI_le (a := 60) (by omega) (by omega) (by omega) (by omega)).mp z) (by omega), fun _ => S_msi m1 _ k (by omega) ?_⟩
      rw [msi_fr f1 (by decide)]
      refine B_X11_patchOf_35 m1 Q _ _ _ _ (bz (fun z => by rw [iI_i1]; exact skip (by unfold mjn; rw [z, Bool.false_and])) (fun z => ?_))
      rw [show (180 : Int32) = iI 180 from rfl, iI_add, iI_cl (by omega) (by omega), iI_in (by omega) (by omega), show (180 + (k : Int)).toNat = 180 + k by omega, f1.1 115 (by decide) (by decide), iI_i1]
      refine ⟨by omega, fun y => ?_, fun y => skip (by unfold mjn; rw [decide_eq_false y, Bool.and_false])⟩
      have hj : mjn m f k = true := by
        unfold mjn
        rw [z, decide_eq_true y]
        rfl
      have e : fb_ct (mjn m f) (k + 1) = fb_ct (mjn m f) k + 1 := by rw [fb_ct_succ, hj]; rfl
      obtain ⟨n, hn⟩ : ∃ n, n = fb_ct (mjn m f) k := ⟨_, rfl⟩
      rw [← hn] at lc
      have := lp (N := 4) (W := fun w m2 => am_WP YL 190 0 0 58 [some (.ref 109), some (.int f), some (.int (iI (n : Int))), some (.int (iI (k : Int))), some (.int (iI (w : Int)))] [] m2 Q) (fun w m2 => Fm [119] [] m m2 ∧ ∀ j, m2.2.1 119 j = if j < w then (if n = 0 then m.2.1 116 (4 * k + j) else m1.2.1 119 j &&& m.2.1 116 (4 * k + j)) else m1.2.1 119 j) (s := m1) ⟨f1, fun j => by rw [if_neg (Nat.not_lt_zero j)]⟩ ?_ ?_
      · rw [hn] at this
        exact this
      · rintro w m2 hw ⟨f2, b2⟩ ihw
        refine B_X11_patchOf_58 m2 Q _ _ _ _ ?_
        simp (disch := omega) only [iI_lit, iI_add, iI_mul, iI_le, iI_in, iI_cl, iI_eq, Int.toNat_natCast]
        rw [show (4 * (k : Int) + (w : Int)).toNat = 4 * k + w by omega, f2.2.1 116 (by decide)]
        refine ⟨fun z => by omega, fun _ => ⟨fun z => ⟨by omega, by omega, by omega, ihw _ ⟨f2.pJ (by decide) _ _, fun j => ?_⟩⟩, fun z => ⟨by omega, by omega, ihw _ ⟨f2.pJ (by decide) _ _, fun j => ?_⟩⟩⟩⟩
        · rw [am_pJ_at, b2 j, b2 w, if_neg (Nat.lt_irrefl w)]
          by_cases c : j = w
          · rw [if_pos c, if_pos (show j < w + 1 by omega), if_neg (show ¬ n = 0 by omega), c]
          · rw [if_neg c]
            by_cases c2 : j < w
            · rw [if_pos c2, if_pos (show j < w + 1 by omega)]
            · rw [if_neg c2, if_neg (show ¬ j < w + 1 by omega)]
        · rw [am_pJ_at, b2 j]
          by_cases c : j = w
          · rw [if_pos c, if_pos (show j < w + 1 by omega), if_pos (show n = 0 by omega), c]
          · rw [if_neg c]
            by_cases c2 : j < w
            · rw [if_pos c2, if_pos (show j < w + 1 by omega)]
            · rw [if_neg c2, if_neg (show ¬ j < w + 1 by omega)]
      · rintro m2 ⟨f2, b2⟩
        refine B_X11_patchOf_58 m2 Q _ _ _ _ ⟨fun _ => ?_, fun z => absurd (show (4 : Int32) ≤ iI ((4 : Nat) : Int) by decide) z⟩
        rw [iI_i1, iI_i1]
        have := ih m2 ⟨f2, fun q hq => ?_⟩
        · rw [e, ← hn] at this
          exact this
        · have w1q := w1 q hq
          unfold mpt
          show _ = (decide _ && (mal m f k q && (!mjn m f k || wb (mv m 116 k) q)))
          rw [e, hj, decide_eq_true (Nat.succ_pos _)]
          unfold wb mv at w1q ⊢
          rw [b2, if_pos (by omega)]
          unfold mpt at w1q
          by_cases c : n = 0
          · rw [if_pos c]
            have em : mal m f k q = true := by
              have hz := fb_ct_zero.mp (hn.symm.trans c)
              have : ∀ j, j ≤ k → mal m f j q = true := by
                intro j
                induction j with
                | zero => intro _; rfl
                | succ j ihj =>
                  intro hj2
                  show (mal m f j q && (!mjn m f j || _)) = true
                  rw [ihj (by omega), hz j (by omega)]
                  rfl
              exact this k (Nat.le_refl k)
            rw [em, show 4 * 0 + q / 64 = q / 64 by omega]
            rfl
          · rw [if_neg c, zw_and, w1q, decide_eq_true (show 0 < fb_ct (mjn m f) k by omega), show 4 * 0 + q / 64 = q / 64 by omega]
            rfl
    · rintro m1 ⟨f1, w1⟩
      exact B_X11_patchOf_24 m1 Q _ _ _ ⟨fun _ => h m1 f1 w1, fun z => absurd (show (60 : Int32) ≤ iI ((60 : Nat) : Int) by decide) z⟩
  have := lp (N := 4) (W := fun k m1 => am_WP YL 190 0 0 4 [some (.ref 109), some (.int f), some (.int 0), some (.int (iI (k : Int))), none] [] m1 Q) (fun k m1 => Fm [119] [] m m1 ∧ ∀ w, w < k → m1.2.1 119 w = 0) (s := m) ⟨Fm.rf _ _ m, fun w hw => absurd hw (Nat.not_lt_zero w)⟩ ?_ ?_
  · exact this
  · rintro k m1 hk4 ⟨fr, w1⟩ ih
    refine B_X11_patchOf_4 m1 Q _ _ _ ?_
    rw [iI_cl (by omega) (by omega), Int.toNat_natCast, iI_in (by omega) (by omega), show (4 : Int32) = iI 4 from rfl, iI_le (by omega) (by omega) (by omega) (by omega), iI_i1]
    refine ⟨fun z => by omega, fun _ => ⟨by omega, ih _ ⟨fr.pJ (by decide) _ _, ?_⟩⟩⟩
    intro w hw
    rw [am_pJ_at]
    by_cases c : w = k
    · rw [if_pos (by omega)]
    · rw [if_neg (by omega)]
      exact w1 w (by omega)
  · rintro m1 ⟨fr, w1⟩
    refine B_X11_patchOf_4 m1 Q _ _ _ ⟨fun _ => main m1 fr (fun q hq => ?_), fun z => absurd (show (4 : Int32) ≤ iI ((4 : Nat) : Int) by decide) z⟩
    unfold wb mv
    rw [w1 _ (by omega), zw_0]
/-- do two sets meet, by squares -/
def mtb (p r : Nat → Bool) : Bool := decide (0 < fb_ct (fun q => p q && r q) 256)
theorem mtb_cong {p r p' r' : Nat → Bool} (h1 : ∀ q, q < 256 → p q = p' q) (h2 : ∀ q, q < 256 → r q = r' q) : mtb p r = mtb p' r' := by
  unfold mtb
  rw [fb_ct_cong (q := fun q => p' q && r' q) (fun q hq => by rw [h1 q hq, h2 q hq])]
theorem wm_mtb (f g : Nat → Int64) : wm f g = mtb (wb f) (wb g) := by
  unfold mtb
  by_cases c : wm f g = true
  · rw [c]
    obtain ⟨q, hq, h1, h2⟩ := (wm_iff f g).mp c
    exact (decide_eq_true (fb_ct_pos.mpr ⟨q, hq, by rw [h1, h2]; rfl⟩)).symm
  · have c2 : wm f g = false := by cases hp : wm f g; rfl; exact absurd hp c
    rw [c2]
    refine (decide_eq_false (fun z => ?_)).symm
    obtain ⟨q, hq, h1⟩ := fb_ct_pos.mp z
    have := Bool.and_eq_true_iff.mp h1
    exact c ((wm_iff f g).mpr ⟨q, hq, this.1, this.2⟩)
theorem zw_or0 (a b : Int64) : a ||| b = 0 ↔ a = 0 ∧ b = 0 := by
  rw [zw_eq0, zw_eq0, zw_eq0]
  constructor
  · intro h
    constructor
    · intro j hj
      have := h j hj
      rw [zw_or] at this
      cases hp : zw_b a j
      · rfl
      · rw [hp] at this; cases this
    · intro j hj
      have := h j hj
      rw [zw_or] at this
      cases hp : zw_b b j
      · rfl
      · rw [hp, Bool.or_true] at this; cases this
  · intro h j hj
    rw [zw_or, h.1 j hj, h.2 j hj]
    rfl
theorem wm_or (f g : Nat → Int64) : (((f 0 &&& g 0) ||| (f 1 &&& g 1)) ||| (f 2 &&& g 2)) ||| (f 3 &&& g 3) = 0 ↔ wm f g = false := by
  rw [zw_or0, zw_or0, zw_or0]
  constructor
  · intro h
    refine wm_f (fun w hw => ?_)
    match w, hw with
    | 0, _ => exact h.1.1.1
    | 1, _ => exact h.1.1.2
    | 2, _ => exact h.1.2
    | 3, _ => exact h.2
  · intro h
    have : ∀ w, w < 4 → f w &&& g w = 0 := by
      intro w hw
      by_cases c : f w &&& g w = 0
      · exact c
      · rw [wm_t hw c] at h; cases h
    exact ⟨⟨⟨this 0 (by decide), this 1 (by decide)⟩, this 2 (by decide)⟩, this 3 (by decide)⟩
theorem S_mmeets (m : am_M) (Q : Option Value → am_M → Prop) (i : Nat) (hi : i < 60) (h : Q (some (.int (bI (wm (mv m 119 0) (mv m 116 i))))) m) : am_WP YL 191 0 0 0 [some (.ref 109), some (.int (iI (i : Int)))] [] m Q := by
  refine B_X11_meets_0 m Q _ ?_
  rw [lg_z, show (0 : Int32).toNatClampNeg = 0 from rfl, show (1 : Int32).toNatClampNeg = 1 from rfl, show (2 : Int32).toNatClampNeg = 2 from rfl, show (3 : Int32).toNatClampNeg = 3 from rfl]
  simp (disch := omega) only [iI_lit, iI_add, iI_mul, iI_in, iI_cl]
  rw [show (4 * (i : Int)).toNat = 4 * i by omega, show (4 * (i : Int) + 1).toNat = 4 * i + 1 by omega, show (4 * (i : Int) + 2).toNat = 4 * i + 2 by omega, show (4 * (i : Int) + 3).toNat = 4 * i + 3 by omega]
  have e := wm_or (mv m 119 0) (mv m 116 i)
  generalize wm (mv m 119 0) (mv m 116 i) = b at h e
  refine ⟨by omega, by omega, by omega, by omega, fun z => ?_, fun z => ?_⟩
  · rw [e.mp z] at h
    exact h
  · have : b = true := by
      cases b
      · exact absurd (e.mpr rfl) z
      · rfl
    rw [this] at h
    exact h
def mak (m : am_M) (i j : Nat) : Bool := decide (¬ m.1 115 (120 + i) = -1 ∧ m.1 115 (120 + i) = m.1 115 (120 + j) ∧ m.1 115 (60 + i) = m.1 115 (60 + j))
theorem S_alike (m : am_M) (Q : Option Value → am_M → Prop) (i j : Nat) (hi : i < 60) (hj : j < 60) (h : Q (some (.int (bI (mak m i j)))) m) : am_WP YL 192 0 0 0 [some (.ref 109), some (.int (iI (i : Int))), some (.int (iI (j : Int)))] [] m Q := by
  refine B_X11_isAlike_0 m Q _ _ ?_
  have e1 : ((120 : Int32) + iI (i : Int)) = iI ((120 + i : Nat) : Int) := iI_add 120 _
  have e2 : ((120 : Int32) + iI (j : Int)) = iI ((120 + j : Nat) : Int) := iI_add 120 _
  have e3 : ((60 : Int32) + iI (i : Int)) = iI ((60 + i : Nat) : Int) := iI_add 60 _
  have e4 : ((60 : Int32) + iI (j : Int)) = iI ((60 + j : Nat) : Int) := iI_add 60 _
  rw [e1, e2, e3, e4]
  rw [iI_cl (by omega) (by omega), iI_cl (by omega) (by omega), iI_cl (by omega) (by omega), iI_cl (by omega) (by omega), Int.toNat_natCast, Int.toNat_natCast, Int.toNat_natCast, Int.toNat_natCast, iI_in (by omega) (by omega), iI_in (by omega) (by omega), iI_in (by omega) (by omega), iI_in (by omega) (by omega)]
  unfold mak at h
  refine ⟨by omega, fun z => ?_, fun z => ⟨by omega, by omega, fun y => ?_, fun y => ⟨by omega, by omega, fun x => ?_, fun x => ?_⟩⟩⟩
  · rw [decide_eq_false (fun w => w.1 z)] at h
    exact h
  · rw [decide_eq_false (fun w => y w.2.1)] at h
    exact h
  · rw [decide_eq_false (fun w => x w.2.2)] at h
    exact h
  · rw [decide_eq_true ⟨z, y, x⟩] at h
    exact h
def mfo (m : am_M) (f : Int) : Bool := decide (0 ≤ f ∧ f < (m.1 115 348).toInt)
theorem S_isFire (m : am_M) (Q : Option Value → am_M → Prop) (f : Int) (hbf : -2147483648 ≤ f ∧ f ≤ 2147483647) (h : Q (some (.int (bI (mfo m f)))) m) : am_WP YL 193 0 0 0 [some (.ref 109), some (.int (iI f))] [] m Q := by
  refine B_X11_isFire_0 m Q _ ?_
  rw [show (348 : Int32).toNatClampNeg = 348 from rfl]
  have b := iI_b (m.1 115 348)
  rw [← iI_self (m.1 115 348)]
  simp (disch := omega) only [iI_lit, iI_ofNat, iI_neg, iI_add, iI_sub, iI_mul, iI_lt, iI_le, iI_eq, iI_in, iI_cl]
  unfold mfo at h
  refine ⟨fun z => ?_, fun z => ⟨fun y => ?_, fun y => ?_⟩⟩
  · rw [decide_eq_false (by omega)] at h
    exact h
  · rw [decide_eq_false (by omega)] at h
    exact h
  · rw [decide_eq_true (by omega)] at h
    exact h
def mcl (m : am_M) (i : Nat) (f : Int32) : Nat → Bool
  | 0 => false
  | k + 1 => mcl m i f k || (mjn m f k && mak m i k)
def mfits (m : am_M) (i f : Int) : Bool := msi m i && (mfo m f && (decide (m.1 115 (300 + f.toNat) = 0) && (decide (m.1 115 (180 + i.toNat) = -1) && (!mcl m i.toNat (iI f) 60 && mtb (mpt m (iI f) 60) (wb (mv m 116 i.toNat))))))
theorem S_fits (m : am_M) (Q : Option Value → am_M → Prop) (E : Nat) (hE : E ≤ 20) (h348 : m.1 115 348 = iI (E : Int)) (i f : Int) (hbi : -2147483648 ≤ i ∧ i ≤ 2147483647) (hbf : -2147483648 ≤ f ∧ f ≤ 2147483647) (h : ∀ m1, Fm [119] [] m m1 → Q (some (.int (bI (mfits m i f)))) m1) : am_WP YL 194 0 0 0 [some (.ref 109), some (.int (iI i)), some (.int (iI f)), none] [] m Q := by
  have no : mfits m i f = false → Q (some (.int 0)) m := fun z => by
    have := h m (Fm.rf _ _ m)
    rw [z] at this
    exact this
  refine B_X11_fits_0 m Q _ _ (S_msi m _ i hbi (B_X11_fits_5 m Q _ _ _ (bz (fun z => no (by unfold mfits; rw [z, Bool.false_and])) (fun z1 => ?_))))
  refine S_isFire m _ f hbf (B_X11_fits_13 m Q _ _ _ (bz (fun z => no (by unfold mfits; rw [z, Bool.false_and, Bool.and_false])) (fun z2 => ?_)))
  have hi := of_decide_eq_true z1
  have hf : 0 ≤ f ∧ f < (E : Int) := by
    have := of_decide_eq_true z2
    rw [h348, iI_to (by omega) (by omega)] at this
    exact this
  obtain ⟨i, rfl⟩ : ∃ n : Nat, i = n := ⟨i.toNat, by omega⟩
  obtain ⟨f, rfl⟩ : ∃ n : Nat, f = n := ⟨f.toNat, by omega⟩
  have e1 : ((300 : Int32) + iI (f : Int)) = iI ((300 + f : Nat) : Int) := iI_add 300 _
  have e2 : ((180 : Int32) + iI (i : Int)) = iI ((180 + i : Nat) : Int) := iI_add 180 _
  have em : mfits m i f = (decide (m.1 115 (300 + f) = 0) && (decide (m.1 115 (180 + i) = -1) && (!mcl m i (iI f) 60 && mtb (mpt m (iI f) 60) (wb (mv m 116 i))))) := by
    unfold mfits
    rw [z1, z2, Bool.true_and, Bool.true_and, Int.toNat_natCast, Int.toNat_natCast]
  rw [em] at h no
  rw [e1, e2, iI_cl (by omega) (by omega), iI_cl (by omega) (by omega), Int.toNat_natCast, Int.toNat_natCast, iI_in (by omega) (by omega), iI_in (by omega) (by omega)]
  refine ⟨by omega, fun z => no (by rw [decide_eq_false z, Bool.false_and]), fun z3 => ⟨by omega, fun z4 => ?_, fun z => no (by rw [decide_eq_false z, Bool.false_and, Bool.and_false])⟩⟩
  rw [decide_eq_true z3, decide_eq_true z4, Bool.true_and, Bool.true_and] at h no
  have := lp (N := 60) (W := fun k (_ : Unit) => am_WP YL 194 0 0 47 [some (.ref 109), some (.int (iI (i : Int))), some (.int (iI (f : Int))), some (.int (iI (k : Int)))] [] m Q) (fun k _ => mcl m i (iI (f : Int)) k = false) (s := ()) rfl ?_ ?_
  · exact this
  · intro k _ hk hI ih
    have nx : (mjn m (iI (f : Int)) k && mak m i k) = false → am_WP YL 194 0 0 47 [some (.ref 109), some (.int (iI (i : Int))), some (.int (iI (f : Int))), some (.int (iI ((k : Int) + 1)))] [] m Q := by
      intro z
      refine ih () ?_
      show (mcl m i (iI (f : Int)) k || _) = false
      rw [hI, z]
      rfl
    refine B_X11_fits_47 m Q _ _ _ ⟨fun z => absurd ((iI_le (a := 60) (by omega) (by omega) (by omega) (by omega)).mp z) (by omega), fun _ => S_msi m _ k (by omega) (B_X11_fits_58 m Q _ _ _ _ (bz (fun y => ?_) (fun y => ?_)))⟩
    · rw [iI_i1]
      exact nx (by unfold mjn; rw [y, Bool.false_and, Bool.false_and])
    · have e3 : ((180 : Int32) + iI (k : Int)) = iI ((180 + k : Nat) : Int) := iI_add 180 _
      rw [e3, iI_cl (by omega) (by omega), Int.toNat_natCast, iI_in (by omega) (by omega), iI_i1]
      refine ⟨by omega, fun x => nx (by unfold mjn; rw [decide_eq_false x, Bool.and_false, Bool.false_and]), fun x => ?_⟩
      refine S_alike m _ i k (by omega) hk (B_X11_fits_81 m Q _ _ _ _ (bz (fun w => ?_) (fun w => ?_)))
      · rw [iI_i1]
        exact nx (by rw [w, Bool.and_false])
      · refine no ?_
        have : ∀ j, k < j → mcl m i (iI (f : Int)) j = true := by
          intro j
          induction j with
          | zero => intro z; omega
          | succ j ihj =>
            intro z
            show (mcl m i (iI (f : Int)) j || (mjn m (iI (f : Int)) j && mak m i j)) = true
            by_cases c : k = j
            · subst c
              unfold mjn
              rw [y, decide_eq_true x, w]
              cases mcl m i (iI (f : Int)) k <;> rfl
            · rw [ihj (by omega), Bool.true_or]
        rw [this 60 hk]
        rfl
  · intro _ hI
    refine B_X11_fits_47 m Q _ _ _ ⟨fun _ => S_mpatch m _ _ (fun m1 f1 w1 => B_X11_fits_97 m1 Q _ _ (S_mmeets m1 _ i (by omega) (B_X11_fits_103 m1 Q _ ⟨bI_01 _, ?_⟩))), fun z => absurd (show (60 : Int32) ≤ iI ((60 : Nat) : Int) by decide) z⟩
    have e : wm (mv m1 119 0) (mv m1 116 i) = mtb (mpt m (iI (f : Int)) 60) (wb (mv m 116 i)) := by
      rw [wm_mtb]
      refine mtb_cong w1 (fun q _ => ?_)
      have : mv m1 116 i = mv m 116 i := by unfold mv; rw [f1.2.1 116 (by decide)]
      rw [this]
    rw [e]
    have := h m1 f1
    rw [hI] at this
    exact this
