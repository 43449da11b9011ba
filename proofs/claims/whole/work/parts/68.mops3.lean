/-! ===== the reference: apart, out, fire, patch, crews, counts ===== -/
def mapok (m : am_M) (i : Int) : Bool := msi m i && (!decide (m.1 115 (180 + i.toNat) = -1) && !decide (m.1 115 (300 + (m.1 115 (180 + i.toNat)).toInt.toNat) = 1))
theorem S_mapart (m : am_M) (Q : Option Value → am_M → Prop) (lt kp : Nat) (hl : lt < 50) (hk : kp ≤ 50) (h14 : m.1 109 14 = iI (lt : Int)) (h13 : m.1 109 13 = iI (kp : Int)) (hJ : ∀ i, i < 60 → m.1 115 (180 + i) = -1 ∨ (0 ≤ (m.1 115 (180 + i)).toInt ∧ (m.1 115 (180 + i)).toInt < 20)) (i : Int) (hbi : -2147483648 ≤ i ∧ i ≤ 2147483647)
    (h0 : mapok m i = false → Q (some (.int 0)) m)
    (h1 : mapok m i = true → ∀ f : Nat, f < 20 → m.1 115 (180 + i.toNat) = iI (f : Int) → ∀ m1, Fm [115, 117, 118, 119] [13, 14] m m1 → Acted m m1 lt kp → (∀ k, m1.1 115 k = if k = 180 + i.toNat then -1 else if k = 300 + f ∧ fb_ct (mjn (am_pI m 115 (180 + i.toNat) (-1)) (iI (f : Int))) 60 = 0 then 2 else m.1 115 k) → Q (some (.int 1)) m1) :
    am_WP YL 197 0 0 0 [some (.ref 109), some (.int (iI i)), none] [] m Q := by
  refine B_X11_apart_0 m Q _ (S_msi m _ i hbi (B_X11_apart_5 m Q _ _ (bz (fun z => h0 (by unfold mapok; rw [z, Bool.false_and])) (fun z1 => ?_))))
  have y1 := of_decide_eq_true z1
  obtain ⟨i, rfl⟩ : ∃ n : Nat, i = n := ⟨i.toNat, by omega⟩
  have ek : mapok m i = (!decide (m.1 115 (180 + i) = -1) && !decide (m.1 115 (300 + (m.1 115 (180 + i)).toInt.toNat) = 1)) := by unfold mapok; rw [z1, Bool.true_and, Int.toNat_natCast]
  rw [Int.toNat_natCast] at h1
  have e2 : ((180 : Int32) + iI (i : Int)) = iI ((180 + i : Nat) : Int) := iI_add 180 _
  rw [e2, iI_cl (by omega) (by omega), Int.toNat_natCast, iI_in (by omega) (by omega)]
  refine ⟨by omega, fun z => h0 (by rw [ek, decide_eq_true z]; rfl), fun z2 => ⟨by omega, ?_⟩⟩
  have hj := (hJ i (by omega)).resolve_left z2
  obtain ⟨f, hf⟩ : ∃ f : Nat, m.1 115 (180 + i) = iI (f : Int) ∧ f < 20 ∧ (m.1 115 (180 + i)).toInt.toNat = f := ⟨(m.1 115 (180 + i)).toInt.toNat, by rw [Int.toNat_of_nonneg hj.1, iI_self], by omega, rfl⟩
  rw [hf.2.2] at ek
  have e3 : ((300 : Int32) + iI (f : Int)) = iI ((300 + f : Nat) : Int) := iI_add 300 _
  have f20 := hf.2.1
  rw [hf.1, e3, iI_cl (by omega) (by omega), Int.toNat_natCast, iI_in (by omega) (by omega)]
  refine ⟨by omega, fun z3 => ?_, fun z => h0 (by rw [ek, decide_eq_true z, Bool.not_true, Bool.and_false])⟩
  have hok : mapok m i = true := by rw [ek, decide_eq_false z2, decide_eq_false z3]; rfl
  refine S_act m _ lt kp hl hk h14 h13 (fun m1 f1 ac => B_X11_apart_51 m1 Q _ ?_)
  have e115 : m1.1 115 = m.1 115 := f1.1 115 (by decide) (by decide)
  rw [e2, iI_cl (by omega) (by omega), Int.toNat_natCast, iI_in (by omega) (by omega), e115, hf.1]
  refine ⟨by omega, by omega, S_mpatch _ _ (iI (f : Int)) (fun m2 f2 _ => B_X11_apart_78 m2 Q _ _ ?_)⟩
  have ej : mjn (am_pI m1 115 (180 + i) (-1)) (iI (f : Int)) = mjn (am_pI m 115 (180 + i) (-1)) (iI (f : Int)) := by
    funext k
    unfold mjn msi
    rw [am_pI_at, am_pI_at, am_pI_at, am_pI_at, e115]
  rw [ej]
  have cl := fb_ct_le (mjn (am_pI m 115 (180 + i) (-1)) (iI (f : Int))) 60
  have g2 : Fm [115, 117, 118, 119] [13, 14] m m2 := ((f1.sub (by decide) (by decide)).pI (by decide) (by decide) _ _).tr (f2.sub (by decide) (by decide))
  have ac2 : Acted m m2 lt kp := ac.fr (by rw [f2.2.2.1 14 (by decide), am_pI_ne (by decide)]) (by rw [f2.2.2.1 13 (by decide), am_pI_ne (by decide)]) (by rw [f2.1 117 (by decide) (by decide), am_pI_ne (by decide)]) (by rw [f2.2.1 118 (by decide)]; rfl)
  have st : ∀ k, m2.1 115 k = if k = 180 + i then -1 else m.1 115 k := fun k => by rw [f2.1 115 (by decide) (by decide), am_pI_at, e115]
  rw [show (0 : Int32) = iI 0 from rfl, iI_eq (by omega) (by omega) (by omega) (by omega), e3, iI_cl (by omega) (by omega), Int.toNat_natCast, iI_in (by omega) (by omega)]
  refine ⟨fun z => h1 hok f f20 hf.1 m2 g2 ac2 (fun k => ?_), fun z => ⟨by omega, h1 hok f f20 hf.1 _ (g2.pI (by decide) (by decide) _ _) (ac2.fr (by rw [am_pI_ne (by decide)]) (by rw [am_pI_ne (by decide)]) (by rw [am_pI_ne (by decide)]) rfl) (fun k => ?_)⟩⟩
  · rw [st k]
    by_cases c : k = 180 + i
    · rw [if_pos c, if_pos c]
    · rw [if_neg c, if_neg c, if_neg (fun w => z (by rw [w.2]; rfl))]
  · rw [am_pI_at, st k]
    by_cases c : k = 180 + i
    · rw [if_neg (by omega), if_pos c, if_pos c]
    · rw [if_neg c, if_neg c]
      by_cases c2 : k = 300 + f
      · rw [if_pos c2, if_pos ⟨c2, by omega⟩]
      · rw [if_neg c2, if_neg (fun w => c2 w.1)]
def mouok (m : am_M) (f : Int) : Bool := mfo m f && decide (m.1 115 (300 + f.toNat) = 0)
theorem S_mout (m : am_M) (Q : Option Value → am_M → Prop) (E : Nat) (hE : E ≤ 20) (h348 : m.1 115 348 = iI (E : Int)) (lt kp : Nat) (hl : lt < 50) (hk : kp ≤ 50) (h14 : m.1 109 14 = iI (lt : Int)) (h13 : m.1 109 13 = iI (kp : Int)) (f : Int) (hbf : -2147483648 ≤ f ∧ f ≤ 2147483647)
    (h0 : mouok m f = false → Q (some (.int 0)) m) (h1 : mouok m f = true → ∀ m1, Fm [115, 117, 118] [13, 14] m m1 → Acted m m1 lt kp → (∀ k, m1.1 115 k = if k = 300 + f.toNat then 1 else m.1 115 k) → Q (some (.int 1)) m1) :
    am_WP YL 199 0 0 0 [some (.ref 109), some (.int (iI f))] [] m Q := by
  refine B_X11_out_0 m Q _ (S_isFire m _ f hbf (B_X11_out_5 m Q _ _ (bz (fun z => h0 (by unfold mouok; rw [z, Bool.false_and])) (fun z1 => ?_))))
  have hf : 0 ≤ f ∧ f < (E : Int) := by
    have := of_decide_eq_true z1
    rw [h348, iI_to (by omega) (by omega)] at this
    exact this
  obtain ⟨f, rfl⟩ : ∃ n : Nat, f = n := ⟨f.toNat, by omega⟩
  have ek : mouok m f = decide (m.1 115 (300 + f) = 0) := by unfold mouok; rw [z1, Bool.true_and, Int.toNat_natCast]
  rw [Int.toNat_natCast] at h1
  have e3 : ((300 : Int32) + iI (f : Int)) = iI ((300 + f : Nat) : Int) := iI_add 300 _
  rw [e3, iI_cl (by omega) (by omega), Int.toNat_natCast, iI_in (by omega) (by omega)]
  refine ⟨by omega, fun z => ?_, fun z => h0 (by rw [ek, decide_eq_false z])⟩
  refine S_act m _ lt kp hl hk h14 h13 (fun m1 f1 ac => B_X11_out_27 m1 Q _ ?_)
  rw [e3, iI_cl (by omega) (by omega), Int.toNat_natCast, iI_in (by omega) (by omega)]
  refine ⟨by omega, h1 (by rw [ek, decide_eq_true z]) _ ((f1.sub (by decide) (by decide)).pI (by decide) (by decide) _ _) (ac.fr (by rw [am_pI_ne (by decide)]) (by rw [am_pI_ne (by decide)]) (by rw [am_pI_ne (by decide)]) rfl) (fun k => ?_)⟩
  rw [am_pI_at, f1.1 115 (by decide) (by decide)]
def mfir (m : am_M) (f w : Int) : Int32 := if mfo m f = false then -1 else if w = 0 then m.1 115 (300 + f.toNat) else if w = 1 then iI (fb_ct (mjn m (iI f)) 60 : Int) else if w = 2 then iI (fb_ct (mpt m (iI f) 60) 256 : Int) else if w = 3 then iI (mid (mpt m (iI f) 60)) else if w = 4 then m.1 115 (320 + f.toNat) else -1
theorem S_mfire (m : am_M) (Q : Option Value → am_M → Prop) (E : Nat) (hE : E ≤ 20) (h348 : m.1 115 348 = iI (E : Int)) (f w : Int) (hbf : -2147483648 ≤ f ∧ f ≤ 2147483647) (hbw : -2147483648 ≤ w ∧ w ≤ 2147483647) (h : ∀ m1, Fm [119] [] m m1 → Q (some (.int (mfir m f w))) m1) : am_WP YL 201 0 0 0 [some (.ref 109), some (.int (iI f)), some (.int (iI w)), none] [] m Q := by
  refine B_X11_fire_0 m Q _ _ (S_isFire m _ f hbf (B_X11_fire_5 m Q _ _ _ (bz' (fun z => ?_) (fun z1 => ?_))))
  · have := h m (Fm.rf _ _ m)
    unfold mfir at this
    rw [if_pos z] at this
    exact this
  have hf : 0 ≤ f ∧ f < (E : Int) := by
    have := of_decide_eq_true z1
    rw [h348, iI_to (by omega) (by omega)] at this
    exact this
  obtain ⟨f, rfl⟩ : ∃ n : Nat, f = n := ⟨f.toNat, by omega⟩
  unfold mfir at h
  rw [z1, if_neg (by decide), Int.toNat_natCast] at h
  refine S_mpatch m _ (iI (f : Int)) (fun m1 f1 w1 => B_X11_fire_15 m1 Q _ _ _ ?_)
  have h := h m1 f1
  have e3 : ((300 : Int32) + iI (f : Int)) = iI ((300 + f : Nat) : Int) := iI_add 300 _
  have e4 : ((320 : Int32) + iI (f : Int)) = iI ((320 + f : Nat) : Int) := iI_add 320 _
  rw [iI_to (by omega) (by omega), e3, e4, iI_cl (by omega) (by omega), iI_cl (by omega) (by omega), Int.toNat_natCast, Int.toNat_natCast, iI_in (by omega) (by omega), iI_in (by omega) (by omega), f1.1 115 (by decide) (by decide)]
  refine ⟨fun z => ?_, fun z => ⟨by omega, ?_⟩, fun z => ?_, fun z => ?_, fun z => ?_, fun z => ⟨by omega, ?_⟩⟩
  · rw [if_neg (by omega), if_neg (by omega), if_neg (by omega), if_neg (by omega), if_neg (by omega)] at h
    exact h
  · rw [if_pos z] at h
    exact h
  · rw [if_neg (by omega), if_pos z] at h
    exact h
  · rw [if_neg (by omega), if_neg (by omega), if_pos z] at h
    refine S_msize m1 _ 119 4 0 rfl rfl (by decide) (by decide) (B_X11_fire_73 m1 Q _ ?_)
    rw [fb_ct_cong w1]
    exact h
  · rw [if_neg (by omega), if_neg (by omega), if_neg (by omega), if_pos z] at h
    exact S_mmid m1 _ (mpt m (iI (f : Int)) 60) w1 (B_X11_fire_78 m1 Q _ h)
  · rw [if_neg (by omega), if_neg (by omega), if_neg (by omega), if_neg (by omega), if_pos z] at h
    exact h
theorem S_mpatchK (m : am_M) (Q : Option Value → am_M → Prop) (f k : Int) (hbf : -2147483648 ≤ f ∧ f ≤ 2147483647) (hbk : -2147483648 ≤ k ∧ k ≤ 2147483647) (h : ∀ m1, Fm [119] [] m m1 → Q (some (.int (iI (if mfo m f then kth (mpt m (iI f) 60) k 256 else -1)))) m1) : am_WP YL 202 0 0 0 [some (.ref 109), some (.int (iI f)), some (.int (iI k)), none] [] m Q := by
  refine B_X11_patch_0 m Q _ _ (S_isFire m _ f hbf (B_X11_patch_5 m Q _ _ _ (bz' (fun z => ?_) (fun z1 => ?_))))
  · have := h m (Fm.rf _ _ m)
    rw [z] at this
    exact this
  · refine S_mpatch m _ (iI f) (fun m1 f1 w1 => B_X11_patch_15 m1 Q _ _ (S_mkth m1 _ 119 4 0 rfl rfl (by decide) (by decide) k (by omega) (by omega) (B_X11_patch_25 m1 Q _ ?_)))
    have := h m1 f1
    rw [if_pos z1] at this
    rw [kth_cong w1]
    exact this
def mco (m : am_M) (k : Int) : Bool := decide (0 ≤ k ∧ k < (m.1 115 349).toInt)
theorem S_isCrew (m : am_M) (Q : Option Value → am_M → Prop) (k : Int) (hbk : -2147483648 ≤ k ∧ k ≤ 2147483647) (h : Q (some (.int (bI (mco m k)))) m) : am_WP YL 211 0 0 0 [some (.ref 109), some (.int (iI k))] [] m Q := by
  refine B_X11_isCrew_0 m Q _ ?_
  rw [show (349 : Int32).toNatClampNeg = 349 from rfl]
  have b := iI_b (m.1 115 349)
  rw [← iI_self (m.1 115 349)]
  simp (disch := omega) only [iI_lit, iI_ofNat, iI_neg, iI_add, iI_sub, iI_mul, iI_lt, iI_le, iI_eq, iI_in, iI_cl]
  unfold mco at h
  refine ⟨fun z => ?_, fun z => ⟨fun y => ?_, fun y => ?_⟩⟩
  · rw [decide_eq_false (by omega)] at h
    exact h
  · rw [decide_eq_false (by omega)] at h
    exact h
  · rw [decide_eq_true (by omega)] at h
    exact h
/-- the crews as the reference has them -/
def CR (m : am_M) (C : Nat) : Prop := C ≤ 8 ∧ m.1 115 349 = iI (C : Int) ∧ ∀ k, k < C → 0 ≤ (m.1 115 (340 + k)).toInt ∧ (m.1 115 (340 + k)).toInt < 256
def mca (m : am_M) (k : Nat) : Nat := (m.1 115 (340 + k)).toInt.toNat
theorem CR.at {m : am_M} {C k : Nat} (h : CR m C) (hk : k < C) : m.1 115 (340 + k) = iI (mca m k : Int) ∧ mca m k < 256 := by
  have := h.2.2 k hk
  unfold mca
  refine ⟨?_, by omega⟩
  rw [Int.toNat_of_nonneg this.1, iI_self]
theorem mco_C {m : am_M} {C : Nat} (h : CR m C) (k : Int) : mco m k = decide (0 ≤ k ∧ k < (C : Int)) := by
  have := h.1
  unfold mco
  rw [h.2.1, iI_to (by omega) (by omega)]
theorem S_mcrew (m : am_M) (Q : Option Value → am_M → Prop) (hL : ML m) (C : Nat) (hC : CR m C) (lt kp : Nat) (hl : lt < 50) (hk : kp ≤ 50) (h14 : m.1 109 14 = iI (lt : Int)) (h13 : m.1 109 13 = iI (kp : Int)) (r c : Int) (hbr : -2147483648 ≤ r ∧ r ≤ 2147483647) (hbc : -2147483648 ≤ c ∧ c ≤ 2147483647)
    (h0 : (mth m r c && !decide (C = 8)) = false → Q (some (.int (-1))) m) (h1 : (mth m r c && !decide (C = 8)) = true → ∀ m1, Fm [115, 117, 118] [13, 14] m m1 → Acted m m1 lt kp → (∀ k, m1.1 115 k = if k = 340 + C then iI (16 * r + c) else if k = 349 then iI ((C + 1 : Nat) : Int) else m.1 115 k) → Q (some (.int (iI (C : Int)))) m1) :
    am_WP YL 212 0 0 0 [some (.ref 109), some (.int (iI r)), some (.int (iI c)), none] [] m Q := by
  have hC8 := hC.1
  refine B_X11_crew_0 m Q _ _ (S_isThere m _ r c (by omega) (by omega) (by omega) (by omega) (B_X11_crew_6 m Q _ _ _ (bz (fun z => h0 (by rw [z, Bool.false_and])) (fun z1 => ?_))))
  have hb := mth_b hL z1
  rw [show (349 : Int32).toNatClampNeg = 349 from rfl, hC.2.1, show (8 : Int32) = iI 8 from rfl, iI_eq (by omega) (by omega) (by omega) (by omega)]
  refine ⟨fun z => ?_, fun z => h0 (by rw [decide_eq_true (show C = 8 by omega), Bool.not_true, Bool.and_false])⟩
  refine S_act m _ lt kp hl hk h14 h13 (fun m1 f1 ac => B_X11_crew_28 m1 Q _ _ ?_)
  have e3 : ((340 : Int32) + iI (C : Int)) = iI ((340 + C : Nat) : Int) := iI_add 340 _
  rw [show (349 : Int32).toNatClampNeg = 349 from rfl, f1.1 115 (by decide) (by decide), hC.2.1, e3, iI_cl (by omega) (by omega), Int.toNat_natCast, iI_in (by omega) (by omega), iI_i1, show (16 : Int32) = iI 16 from rfl, iI_mul, iI_add]
  refine ⟨by omega, h1 (by rw [z1, decide_eq_false (show ¬ C = 8 by omega)]; rfl) _ (((f1.sub (by decide) (by decide)).pI (by decide) (by decide) _ _).pI (by decide) (by decide) _ _) (ac.fr (by rw [am_pI_ne (by decide), am_pI_ne (by decide)]) (by rw [am_pI_ne (by decide), am_pI_ne (by decide)]) (by rw [am_pI_ne (by decide), am_pI_ne (by decide)]) rfl) (fun k => ?_)⟩
  rw [am_pI_at, am_pI_at, f1.1 115 (by decide) (by decide)]
  rfl
/-- minutes: the way's length, from a table -/
theorem S_mminutes (m : am_M) (Q : Option Value → am_M → Prop) (hW : MW m) (C : Nat) (hC : CR m C) (k r c : Int) (hbk : -2147483648 ≤ k ∧ k ≤ 2147483647) (hbr : -2147483648 ≤ r ∧ r ≤ 2147483647) (hbc : -2147483648 ≤ c ∧ c ≤ 2147483647)
    (h0 : (mco m k && mth m r c) = false → Q (some (.int (-1))) m)
    (h1 : (mco m k && mth m r c) = true → ∀ m1, Fm [124, 125] [] m m1 → FB m1 (460 * 256) → tab (med m) (mw m) (16 * r + c).toNat (fvt m1) → Q (some (.int (iI (if fv m1 (mca m k.toNat) = 1000000000 then -1 else (fv m1 (mca m k.toNat) : Int))))) m1) :
    am_WP YL 213 0 0 0 [some (.ref 109), some (.int (iI k)), some (.int (iI r)), some (.int (iI c))] [] m Q := by
  have hC8 := hC.1
  refine B_X11_minutes_0 m Q _ _ _ (S_isCrew m _ k hbk (B_X11_minutes_5 m Q _ _ _ _ (bz (fun z => h0 (by rw [z, Bool.false_and])) (fun z1 => ?_))))
  refine S_isThere m _ r c (by omega) (by omega) (by omega) (by omega) (B_X11_minutes_14 m Q _ _ _ _ (bz' (fun z => h0 (by rw [z, Bool.and_false])) (fun z2 => ?_)))
  have hb := mth_b hW.2.2.2 z2
  have z3 := z1
  rw [mco_C hC] at z3
  have y1 := of_decide_eq_true z3
  obtain ⟨k, rfl⟩ : ∃ n : Nat, k = n := ⟨k.toNat, by omega⟩
  obtain ⟨q, hq⟩ : ∃ q : Nat, 16 * r + c = (q : Int) := ⟨(16 * r + c).toNat, by omega⟩
  have hq2 : q < 256 := by omega
  have ht : mt m q = true := by
    unfold mt
    rw [show ((q / 16 : Nat) : Int) = r by omega, show ((q % 16 : Nat) : Int) = c by omega]
    exact z2
  have ca := hC.at (show k < C by omega)
  rw [show (16 : Int32) = iI 16 from rfl, iI_mul, iI_add, hq]
  refine S_reach m _ hW q hq2 ht (fun m1 f1 fb tb => B_X11_minutes_29 m1 Q _ ?_)
  have h := h1 (by rw [z1, z2]; rfl) m1 f1 fb (by rw [hq, Int.toNat_natCast]; exact tb)
  rw [Int.toNat_natCast] at h
  have e3 : ((340 : Int32) + iI (k : Int)) = iI ((340 + k : Nat) : Int) := iI_add 340 _
  have fb1 := fb (mca m k) ca.2
  have ca2 := ca.2
  have fb2 : fv m1 (mca m k) ≤ 1000000000 := by rcases fb1.2 with z | z <;> omega
  rw [e3, iI_cl (a := ((340 + k : Nat) : Int)) (by omega) (by omega), Int.toNat_natCast, iI_in (a := ((340 + k : Nat) : Int)) (by omega) (by omega), f1.1 115 (by decide) (by decide), ca.1, iI_cl (a := (mca m k : Int)) (by omega) (by omega), Int.toNat_natCast, iI_in (a := (mca m k : Int)) (by omega) (by omega), fb1.1, show (1000000000 : Int32) = iI 1000000000 from rfl, iI_eq (by omega) (by omega) (by omega) (by omega)]
  refine ⟨by omega, by omega, fun z => ⟨by omega, by omega, ?_⟩, fun z => ?_⟩
  · rw [if_neg (by omega)] at h
    exact h
  · rw [if_pos (by omega)] at h
    exact h
theorem S_mmove (m : am_M) (Q : Option Value → am_M → Prop) (hW : MW m) (C : Nat) (hC : CR m C) (lt kp : Nat) (hl : lt < 50) (hkp : kp ≤ 50) (h14 : m.1 109 14 = iI (lt : Int)) (h13 : m.1 109 13 = iI (kp : Int)) (k r c : Int) (hbk : -2147483648 ≤ k ∧ k ≤ 2147483647) (hbr : -2147483648 ≤ r ∧ r ≤ 2147483647) (hbc : -2147483648 ≤ c ∧ c ≤ 2147483647)
    (h0 : (mco m k && mth m r c) = false → Q (some (.int 0)) m)
    (h2 : (mco m k && mth m r c) = true → ∀ m1, Fm [124, 125] [] m m1 → tab (med m) (mw m) (16 * r + c).toNat (fvt m1) → fvt m1 (mca m k.toNat) = 1000000000 → Q (some (.int 0)) m1)
    (h1 : (mco m k && mth m r c) = true → ∀ m1 L, tab (med m) (mw m) (16 * r + c).toNat L → L (mca m k.toNat) < 1000000000 → Fm [115, 117, 118, 124, 125] [13, 14] m m1 → Acted m m1 lt kp → (∀ j, m1.1 115 j = if j = 340 + k.toNat then iI (16 * r + c) else m.1 115 j) → Q (some (.int 1)) m1) :
    am_WP YL 214 0 0 0 [some (.ref 109), some (.int (iI k)), some (.int (iI r)), some (.int (iI c))] [] m Q := by
  have hC8 := hC.1
  refine B_X11_move_0 m Q _ _ _ (S_mminutes m _ hW C hC k r c hbk hbr hbc (fun z => B_X11_move_7 m Q _ _ _ _ ⟨fun y => absurd rfl y, fun _ => h0 z⟩) (fun z m1 f1 fb tb => B_X11_move_7 m1 Q _ _ _ _ ?_))
  have z3 := (Bool.and_eq_true_iff.mp z).1
  have z2 := (Bool.and_eq_true_iff.mp z).2
  rw [mco_C hC] at z3
  have y1 := of_decide_eq_true z3
  have hb := mth_b hW.2.2.2 z2
  have ca := hC.at (show k.toNat < C by omega)
  have fb1 := fb (mca m k.toNat) ca.2
  have ef : fvt m1 (mca m k.toNat) = fv m1 (mca m k.toNat) := if_pos ca.2
  by_cases cz : fv m1 (mca m k.toNat) = 1000000000
  · rw [if_pos cz]
    exact ⟨fun y => absurd rfl y, fun _ => h2 z m1 f1 tb (ef.trans cz)⟩
  · rw [if_neg cz]
    have lt1 : fv m1 (mca m k.toNat) ≤ 460 * 256 := by rcases fb1.2 with w | w; exact absurd w cz; exact w
    refine ⟨fun _ => ?_, fun y => absurd ((iI_eq (b := -1) (by omega) (by omega) (by omega) (by omega)).mp y) (by omega)⟩
    refine S_act m1 _ lt kp hl hkp (by rw [f1.2.2.1 14 (by decide)]; exact h14) (by rw [f1.2.2.1 13 (by decide)]; exact h13) (fun m2 f2 ac => B_X11_move_17 m2 Q _ _ _ ?_)
    have ac1 : Acted m m2 lt kp := by
      unfold Acted at ac ⊢
      rw [← f1.1 115 (by decide) (by decide), ← f1.1 117 (by decide) (by decide), ← f1.2.1 116 (by decide), ← f1.2.1 118 (by decide)]
      exact ac
    rw [show (340 : Int32) = iI 340 from rfl, iI_add, iI_cl (by omega) (by omega), iI_in (by omega) (by omega), show (340 + k).toNat = 340 + k.toNat by omega, show (16 : Int32) = iI 16 from rfl, iI_mul, iI_add]
    refine ⟨by omega, h1 z _ (fvt m1) tb (by rw [ef]; omega) (((f1.sub (by decide) (by decide)).tr (f2.sub (by decide) (by decide))).pI (by decide) (by decide) _ _) (ac1.fr (by rw [am_pI_ne (by decide)]) (by rw [am_pI_ne (by decide)]) (by rw [am_pI_ne (by decide)]) rfl) (fun j => ?_)⟩
    rw [am_pI_at, f2.1 115 (by decide) (by decide), f1.1 115 (by decide) (by decide)]
theorem S_mplace (m : am_M) (Q : Option Value → am_M → Prop) (C : Nat) (hC : CR m C) (k : Int) (hbk : -2147483648 ≤ k ∧ k ≤ 2147483647) (h : Q (some (.int (if mco m k then m.1 115 (340 + k.toNat) else -1))) m) : am_WP YL 215 0 0 0 [some (.ref 109), some (.int (iI k))] [] m Q := by
  have hC8 := hC.1
  refine B_X11_place_0 m Q _ (S_isCrew m _ k hbk (B_X11_place_5 m Q _ _ (bz (fun z => ?_) (fun z => ?_))))
  · rw [z] at h
    exact h
  · rw [if_pos z] at h
    rw [mco_C hC] at z
    have y1 := of_decide_eq_true z
    rw [show (340 : Int32) = iI 340 from rfl, iI_add, iI_cl (by omega) (by omega), iI_in (by omega) (by omega), show (340 + k).toNat = 340 + k.toNat by omega]
    exact ⟨by omega, h⟩
theorem S_msent (m : am_M) (Q : Option Value → am_M → Prop) (f : Int) (hbf : -2147483648 ≤ f ∧ f ≤ 2147483647) (h : Q (some (.int (if inR f 0 19 then m.1 126 f.toNat else -1))) m) : am_WP YL 219 0 0 0 [some (.ref 109), some (.int (iI f))] [] m Q := by
  refine B_X11_sent_0 m Q _ ?_
  simp only [iI_lit]
  refine S_isIn m _ f 0 19 (by omega) (by omega) (by omega) (by omega) (by omega) (by omega) (B_X11_sent_7 m Q _ _ (bz (fun z => ?_) (fun z => ?_)))
  · rw [z] at h
    exact h
  · rw [if_pos z] at h
    have y := of_decide_eq_true z
    rw [iI_cl (by omega) (by omega), iI_in (by omega) (by omega)]
    exact ⟨by omega, h⟩
theorem S_mclaim (m : am_M) (Q : Option Value → am_M → Prop) (i f : Int) (hbi : -2147483648 ≤ i ∧ i ≤ 2147483647) (hbf : -2147483648 ≤ f ∧ f ≤ 2147483647) (h0 : (inR i 0 59 && inR f (-1) 59) = false → Q (some (.int 0)) m) (h1 : (inR i 0 59 && inR f (-1) 59) = true → Q (some (.int 1)) (am_pI m 132 i.toNat (iI f))) : am_WP YL 224 0 0 0 [some (.ref 109), some (.int (iI i)), some (.int (iI f))] [] m Q := by
  refine B_X11_claim_0 m Q _ _ ?_
  simp only [iI_lit]
  refine S_isIn m _ i 0 59 (by omega) (by omega) (by omega) (by omega) (by omega) (by omega) (B_X11_claim_7 m Q _ _ _ (bz (fun z => h0 (by rw [z, Bool.false_and])) (fun z1 => ?_)))
  simp only [iI_lit, iI_neg]
  refine S_isIn m _ f (-1) 59 (by omega) (by omega) (by omega) (by omega) (by omega) (by omega) (B_X11_claim_17 m Q _ _ _ (bz' (fun z => h0 (by rw [z, Bool.and_false])) (fun z2 => ?_)))
  have y := of_decide_eq_true z1
  rw [iI_cl (a := i) (by omega) (by omega), iI_in (a := i) (by omega) (by omega)]
  exact ⟨by omega, h1 (by rw [z1, z2]; rfl)⟩
def msum (m : am_M) : Nat → Int
  | 0 => 0
  | r + 1 => msum m r + (m.1 110 r).toInt
theorem msum_b {m : am_M} (hL : ML m) : ∀ r, r ≤ 16 → 0 ≤ msum m r ∧ msum m r ≤ 16 * r
  | 0, _ => ⟨by show (0 : Int) ≤ 0; omega, by show (0 : Int) ≤ _; omega⟩
  | r + 1, h => by
    have := msum_b hL r (by omega)
    have := hL r (by omega)
    show 0 ≤ msum m r + (m.1 110 r).toInt ∧ msum m r + (m.1 110 r).toInt ≤ _
    omega
def mcnt (m : am_M) (w : Int) : Int32 := if w = 0 then m.1 109 5 else if w = 1 then iI (mpl m : Int) else if w = 2 then m.1 115 348 else if w = 3 then m.1 115 349 else if w = 4 then m.1 109 13 else if w = 5 then iI (msum m 16) else -1
theorem S_mcount (m : am_M) (Q : Option Value → am_M → Prop) (hL : ML m) (w : Int) (hbw : -2147483648 ≤ w ∧ w ≤ 2147483647) (h : Q (some (.int (mcnt m w))) m) : am_WP YL 226 0 0 0 [some (.ref 109), some (.int (iI w)), none, none] [] m Q := by
  refine B_X11_count_0 m Q _ ?_
  rw [iI_to (by omega) (by omega), show (348 : Int32).toNatClampNeg = 348 from rfl, show (349 : Int32).toNatClampNeg = 349 from rfl]
  unfold mcnt at h
  refine ⟨fun z => ?_, fun z => ?_, fun z => ?_, fun z => ?_, fun z => ?_, fun z => ?_, fun z => ?_⟩
  · rw [if_neg (by omega), if_neg (by omega), if_neg (by omega), if_neg (by omega), if_neg (by omega), if_neg (by omega)] at h
    exact h
  · rw [if_pos z] at h
    exact h
  · rw [if_neg (by omega), if_pos z] at h
    exact S_places m _ (B_X11_count_49 m Q _ h)
  · rw [if_neg (by omega), if_neg (by omega), if_pos z] at h
    exact h
  · rw [if_neg (by omega), if_neg (by omega), if_neg (by omega), if_pos z] at h
    exact h
  · rw [if_neg (by omega), if_neg (by omega), if_neg (by omega), if_neg (by omega), if_pos z] at h
    exact h
  · rw [if_neg (by omega), if_neg (by omega), if_neg (by omega), if_neg (by omega), if_neg (by omega), if_pos z] at h
    have := lp (N := 16) (W := fun r (_ : Unit) => am_WP YL 226 0 0 77 [some (.ref 109), none, some (.int (iI (msum m r))), some (.int (iI (r : Int)))] [] m Q) (fun _ _ => True) (s := ()) trivial ?_ ?_
    · exact this
    · intro r _ hr _ ih
      have ih := ih () trivial
      refine B_X11_count_77 m Q _ _ ?_
      rw [iI_cl (a := (r : Int)) (by omega) (by omega), Int.toNat_natCast, iI_in (a := (r : Int)) (by omega) (by omega), ← iI_self (m.1 110 r), iI_add, show (16 : Int32) = iI 16 from rfl, iI_le (by omega) (by omega) (by omega) (by omega), iI_i1]
      exact ⟨fun y => by omega, fun _ => ⟨by omega, ih⟩⟩
    · intro _ _
      exact B_X11_count_77 m Q _ _ ⟨fun _ => h, fun y => absurd (show (16 : Int32) ≤ iI ((16 : Nat) : Int) by decide) y⟩
