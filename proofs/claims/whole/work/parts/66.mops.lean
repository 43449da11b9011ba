/-! ===== the reference's methods, one by one ===== -/
def rok (r n h mi : Int) : Bool := inR r 0 15 && (inR n 0 16 && (decide (n ≤ 0) || (inR h (-1000) 3000 && inR mi 1 60)))
/-- what away leaves -/
def Aw (m1 : am_M) : Prop := m1.1 109 5 = 0 ∧ m1.1 109 13 = 0 ∧ (∀ k, k < 350 → m1.1 115 k = if k < 60 then 6 else if 180 ≤ k ∧ k < 240 then -1 else 0) ∧ (∀ i, i < 60 → m1.1 132 i = -1) ∧ (∀ f, f < 20 → m1.1 126 f = -1)
theorem S_mrow (m : am_M) (Q : Option Value → am_M → Prop) (r n h mi : Int) (hbr : -2147483648 ≤ r ∧ r ≤ 2147483647) (hbn : -2147483648 ≤ n ∧ n ≤ 2147483647) (hbh : -2147483648 ≤ h ∧ h ≤ 2147483647) (hbmi : -2147483648 ≤ mi ∧ mi ≤ 2147483647) (h0 : rok r n h mi = false → Q (some (.int 0)) m)
    (h1 : rok r n h mi = true → ∀ m1, Fm [110, 111, 112, 115, 126, 132] [5, 13] m m1 → Aw m1 → (∀ j, m1.1 110 j = if j = r.toNat then iI n else m.1 110 j) → (∀ q, q < 256 → m1.1 111 q = if q / 16 = r.toNat ∧ q % 16 < n.toNat then iI h else m.1 111 q) → (∀ q, q < 256 → m1.1 112 q = if q / 16 = r.toNat ∧ q % 16 < n.toNat then iI mi else m.1 112 q) → Q (some (.int 1)) m1) :
    am_WP YL 165 0 0 0 [some (.ref 109), some (.int (iI r)), some (.int (iI n)), some (.int (iI h)), some (.int (iI mi)), none] [] m Q := by
  have go : rok r n h mi = true → 0 ≤ r → r ≤ 15 → 0 ≤ n → n ≤ 16 → am_WP YL 165 0 0 60 [some (.ref 109), some (.int (iI r)), some (.int (iI n)), some (.int (iI h)), some (.int (iI mi)), some (.int (iI ((0 : Nat) : Int)))] [] (am_pI m 110 r.toNat (iI n)) Q := by
    intro hk a1 a2 a3 a4
    obtain ⟨r, rfl⟩ : ∃ k : Nat, r = k := ⟨r.toNat, by omega⟩
    obtain ⟨n, rfl⟩ : ∃ k : Nat, n = k := ⟨n.toNat, by omega⟩
    rw [Int.toNat_natCast] at h1 ⊢
    rw [Int.toNat_natCast] at h1
    have := lp (N := n) (W := fun k m1 => am_WP YL 165 0 0 60 [some (.ref 109), some (.int (iI (r : Int))), some (.int (iI (n : Int))), some (.int (iI h)), some (.int (iI mi)), some (.int (iI (k : Int)))] [] m1 Q) (fun k m1 => Fm [110, 111, 112, 115, 126, 132] [5, 13] m m1 ∧ (∀ j, m1.1 110 j = if j = r then iI (n : Int) else m.1 110 j) ∧ (∀ q, q < 256 → m1.1 111 q = if q / 16 = r ∧ q % 16 < k then iI h else m.1 111 q) ∧ (∀ q, q < 256 → m1.1 112 q = if q / 16 = r ∧ q % 16 < k then iI mi else m.1 112 q)) (s := am_pI m 110 r (iI (n : Int))) ⟨(Fm.rf _ _ m).pI (by decide) (by decide) _ _, fun j => am_pI_at _ _ _ _ _, fun q _ => by rw [am_pI_ne (by decide), if_neg (by omega)], fun q _ => by rw [am_pI_ne (by decide), if_neg (by omega)]⟩ ?_ ?_
    · exact this
    · rintro k m1 hkn ⟨f1, b1, b2, b3⟩ ih
      refine B_X11_row_60 m1 Q _ _ _ _ _ ?_
      simp (disch := omega) only [iI_lit, iI_add, iI_mul, iI_le, iI_in, iI_cl]
      rw [show (16 * (r : Int) + (k : Int)).toNat = 16 * r + k by omega]
      refine ⟨fun z => by omega, fun _ => ⟨by omega, by omega, ih _ ⟨(f1.pI (by decide) (by decide) _ _).pI (by decide) (by decide) _ _, fun j => ?_, fun q hq => ?_, fun q hq => ?_⟩⟩⟩
      · rw [am_pI_ne (by decide), am_pI_ne (by decide)]
        exact b1 j
      · rw [am_pI_ne (by decide), am_pI_at, b2 q hq]
        by_cases c : q = 16 * r + k
        · rw [if_pos c, if_pos (by omega)]
        · rw [if_neg c]
          by_cases c2 : q / 16 = r ∧ q % 16 < k
          · rw [if_pos c2, if_pos (by omega)]
          · rw [if_neg c2, if_neg (by omega)]
      · rw [am_pI_at, am_pI_ne (by decide), b3 q hq]
        by_cases c : q = 16 * r + k
        · rw [if_pos c, if_pos (by omega)]
        · rw [if_neg c]
          by_cases c2 : q / 16 = r ∧ q % 16 < k
          · rw [if_pos c2, if_pos (by omega)]
          · rw [if_neg c2, if_neg (by omega)]
    · rintro m1 ⟨f1, b1, b2, b3⟩
      refine B_X11_row_60 m1 Q _ _ _ _ _ ⟨fun _ => S_away m1 _ (fun m2 f2 c1 c2 c3 c4 c5 => B_X11_row_103 m2 Q ?_), fun z => absurd ((iI_le (by omega) (by omega) (by omega) (by omega)).mpr (Int.le_refl _)) z⟩
      have g2 : Fm [110, 111, 112, 115, 126, 132] [5, 13] m m2 := f1.tr (f2.sub (by decide) (by decide))
      refine h1 hk m2 g2 ⟨c1, c2, c3, c4, c5⟩ (fun j => ?_) (fun q hq => ?_) (fun q hq => ?_)
      · rw [f2.1 110 (by decide) (by decide)]; exact b1 j
      · rw [f2.1 111 (by decide) (by decide)]; exact b2 q hq
      · rw [f2.1 112 (by decide) (by decide)]; exact b3 q hq
  refine B_X11_row_0 m Q _ _ _ _ ?_
  simp only [iI_lit]
  refine S_isIn m _ r 0 15 (by omega) (by omega) (by omega) (by omega) (by omega) (by omega) (B_X11_row_7 m Q _ _ _ _ _ (bz (fun z => h0 (by unfold rok; rw [z, Bool.false_and])) (fun z1 => ?_)))
  simp only [iI_lit]
  refine S_isIn m _ n 0 16 (by omega) (by omega) (by omega) (by omega) (by omega) (by omega) (B_X11_row_17 m Q _ _ _ _ _ (bz (fun z => h0 (by unfold rok; rw [z, Bool.false_and, Bool.and_false])) (fun z2 => ?_)))
  have y1 := of_decide_eq_true z1
  have y2 := of_decide_eq_true z2
  have er : rok r n h mi = (decide (n ≤ 0) || (inR h (-1000) 3000 && inR mi 1 60)) := by
    unfold rok
    rw [z1, z2, Bool.true_and, Bool.true_and]
  rw [iI_cl (a := r) (by omega) (by omega), iI_in (a := r) (by omega) (by omega), show (0 : Int32) = iI 0 from rfl, iI_le (a := n) (by omega) (by omega) (by omega) (by omega)]
  refine ⟨fun z => ⟨by omega, go (by rw [er, decide_eq_true z]; rfl) y1.1 y1.2 y2.1 y2.2⟩, fun z => ?_⟩
  rw [decide_eq_false z, Bool.false_or] at er
  simp only [iI_lit, iI_neg]
  refine S_isIn m _ h (-1000) 3000 (by omega) (by omega) (by omega) (by omega) (by omega) (by omega) (B_X11_row_34 m Q _ _ _ _ _ (bz (fun x => h0 (by rw [er, x, Bool.false_and])) (fun x1 => ?_)))
  simp only [iI_lit]
  refine S_isIn m _ mi 1 60 (by omega) (by omega) (by omega) (by omega) (by omega) (by omega) (B_X11_row_45 m Q _ _ _ _ _ (bz' (fun x => h0 (by rw [er, x, Bool.and_false])) (fun x2 => ?_)))
  rw [iI_cl (a := r) (by omega) (by omega), iI_in (a := r) (by omega) (by omega)]
  exact ⟨by omega, go (by rw [er, x1, x2]; rfl) y1.1 y1.2 y2.1 y2.2⟩
def mpl (m : am_M) : Nat := fb_ct (fun i => !decide (m.1 115 i = 6)) 60
theorem mpl_b (m : am_M) : mpl m ≤ 60 := fb_ct_le _ 60
def mqok (m : am_M) (r c h mi : Int) : Bool := mth m r c && (inR h (-1000) 3000 && (inR mi 1 60 && (decide (mpl m = 0) && (decide ((m.1 115 348).toInt ≤ 0) && decide ((m.1 115 349).toInt ≤ 0)))))
theorem mth_b {m : am_M} (hL : ML m) {r c : Int} (h : mth m r c = true) : 0 ≤ r ∧ r ≤ 15 ∧ 0 ≤ c ∧ c ≤ 15 := by
  have := of_decide_eq_true h
  have := hL r.toNat (by omega)
  omega
theorem S_msquare (m : am_M) (Q : Option Value → am_M → Prop) (hL : ML m) (r c h mi : Int) (hbr : -2147483648 ≤ r ∧ r ≤ 2147483647) (hbc : -2147483648 ≤ c ∧ c ≤ 2147483647) (hbh : -2147483648 ≤ h ∧ h ≤ 2147483647) (hbmi : -2147483648 ≤ mi ∧ mi ≤ 2147483647) (h0 : mqok m r c h mi = false → Q (some (.int 0)) m)
    (h1 : mqok m r c h mi = true → Q (some (.int 1)) (am_pI (am_pI m 111 (16 * r + c).toNat (iI h)) 112 (16 * r + c).toNat (iI mi))) :
    am_WP YL 166 0 0 0 [some (.ref 109), some (.int (iI r)), some (.int (iI c)), some (.int (iI h)), some (.int (iI mi))] [] m Q := by
  refine B_X11_square_0 m Q _ _ _ _ (S_isThere m _ r c (by omega) (by omega) (by omega) (by omega) (B_X11_square_6 m Q _ _ _ _ _ (bz (fun z => h0 (by unfold mqok; rw [z, Bool.false_and])) (fun z1 => ?_))))
  have hb := mth_b hL z1
  have e1 : mqok m r c h mi = (inR h (-1000) 3000 && (inR mi 1 60 && (decide (mpl m = 0) && (decide ((m.1 115 348).toInt ≤ 0) && decide ((m.1 115 349).toInt ≤ 0))))) := by unfold mqok; rw [z1, Bool.true_and]
  simp only [iI_lit, iI_neg]
  refine S_isIn m _ h (-1000) 3000 (by omega) (by omega) (by omega) (by omega) (by omega) (by omega) (B_X11_square_19 m Q _ _ _ _ _ (bz (fun z => h0 (by rw [e1, z, Bool.false_and])) (fun z2 => ?_)))
  simp only [iI_lit]
  refine S_isIn m _ mi 1 60 (by omega) (by omega) (by omega) (by omega) (by omega) (by omega) (B_X11_square_30 m Q _ _ _ _ _ (bz (fun z => h0 (by rw [e1, z, Bool.false_and, Bool.and_false])) (fun z3 => ?_)))
  rw [z2, z3, Bool.true_and, Bool.true_and] at e1
  refine S_places m _ (B_X11_square_37 m Q _ _ _ _ _ ?_)
  have pb := mpl_b m
  have i1 := iI_b (m.1 115 348)
  have i2 := iI_b (m.1 115 349)
  rw [show fb_ct (fun i => !decide (m.1 115 i = 6)) 60 = mpl m from rfl, show (348 : Int32).toNatClampNeg = 348 from rfl, show (349 : Int32).toNatClampNeg = 349 from rfl, show (0 : Int32) = iI 0 from rfl, iI_lt (by omega) (by omega) (by omega) (by omega), ← iI_self (m.1 115 348), ← iI_self (m.1 115 349), iI_lt (by omega) (by omega) (by omega) (by omega), iI_le (by omega) (by omega) (by omega) (by omega), show (16 : Int32) = iI 16 from rfl, iI_mul, iI_add, iI_cl (by omega) (by omega), iI_in (by omega) (by omega)]
  refine ⟨fun z => h0 (by rw [e1, decide_eq_false (by omega), Bool.false_and]), fun z => ⟨fun y => h0 (by rw [e1, decide_eq_false (show ¬ (m.1 115 348).toInt ≤ 0 by omega), Bool.false_and, Bool.and_false]), fun y => ⟨fun x => ⟨by omega, by omega, h1 (by rw [e1, decide_eq_true (by omega), decide_eq_true (show (m.1 115 348).toInt ≤ 0 by omega), decide_eq_true x]; rfl)⟩, fun x => h0 (by rw [e1, decide_eq_false x, Bool.and_false, Bool.and_false])⟩⟩⟩
def mtok (m : am_M) (r c h : Int) (n : Nat) : Bool := mth m r c && (inR h 0 100 && (!decide (n = 8) && decide (mpl m = 0)))
theorem S_mtower (m : am_M) (Q : Option Value → am_M → Prop) (hL : ML m) (n : Nat) (hn : n ≤ 8) (h5 : m.1 109 5 = iI (n : Int)) (r c h : Int) (hbr : -2147483648 ≤ r ∧ r ≤ 2147483647) (hbc : -2147483648 ≤ c ∧ c ≤ 2147483647) (hbh : -2147483648 ≤ h ∧ h ≤ 2147483647) (h0 : mtok m r c h n = false → Q (some (.int (-1))) m)
    (h1 : mtok m r c h n = true → ∀ m1, Fm [113, 114] [5] m m1 → m1.1 109 5 = iI ((n + 1 : Nat) : Int) → (∀ t, m1.1 113 t = if t = n then iI (16 * r + c) else m.1 113 t) → (∀ t, m1.1 114 t = if t = n then iI h else m.1 114 t) → Q (some (.int (iI (n : Int)))) m1) :
    am_WP YL 167 0 0 0 [some (.ref 109), some (.int (iI r)), some (.int (iI c)), some (.int (iI h))] [] m Q := by
  refine D_X11_tower_0 m Q _ _ _ (S_isThere m _ r c (by omega) (by omega) (by omega) (by omega) (D_X11_tower_6 m Q _ _ _ _ (bz (fun z => h0 (by unfold mtok; rw [z, Bool.false_and])) (fun z1 => ?_))))
  have hb := mth_b hL z1
  simp only [iI_lit]
  refine S_isIn m _ h 0 100 (by omega) (by omega) (by omega) (by omega) (by omega) (by omega) (D_X11_tower_16 m Q _ _ _ _ (bz (fun z => h0 (by unfold mtok; rw [z, Bool.false_and, Bool.and_false])) (fun z2 => ?_)))
  have e1 : mtok m r c h n = (!decide (n = 8) && decide (mpl m = 0)) := by unfold mtok; rw [z1, z2, Bool.true_and, Bool.true_and]
  rw [h5, show (8 : Int32) = iI 8 from rfl, iI_eq (by omega) (by omega) (by omega) (by omega)]
  refine ⟨fun z => h0 (by rw [e1, decide_eq_true (by omega)]; rfl), fun z => S_places m _ (D_X11_tower_32 m Q _ _ _ _ ?_)⟩
  have pb := mpl_b m
  have v : vp_in (iI (n : Int)) 8 := (iI_in (by omega) (by omega)).mpr (by omega)
  have en : (iI (n : Int)).toNatClampNeg = n := by rw [iI_cl (by omega) (by omega), Int.toNat_natCast]
  rw [show fb_ct (fun i => !decide (m.1 115 i = 6)) 60 = mpl m from rfl, show (0 : Int32) = iI 0 from rfl, iI_le (by omega) (by omega) (by omega) (by omega), h5, en, show (16 : Int32) = iI 16 from rfl, iI_mul, iI_add]
  refine ⟨fun y => ⟨v, D_X11_tower_52 _ Q _ ?_⟩, fun y => h0 (by rw [e1, decide_eq_false (show ¬ mpl m = 0 by omega), Bool.and_false])⟩
  rw [am_pI_ne (by decide), h5, en]
  refine ⟨v, D_X11_tower_62 _ Q (D_X11_tower_72 _ Q ?_)⟩
  rw [am_pI_at, if_pos rfl, am_pI_ne (by decide), am_pI_ne (by decide), h5, iI_i1, show (1 : Int32) = iI 1 from rfl, iI_sub, show (n : Int) + 1 - 1 = (n : Int) by omega]
  refine h1 (by rw [e1, decide_eq_false (by omega), decide_eq_true (show mpl m = 0 by omega)]; rfl) _ ((((Fm.rf _ _ m).pI (by decide) (by decide) _ _).pI (by decide) (by decide) _ _).pF (by decide) _) ?_ ?_ ?_
  · rw [am_pI_at, if_pos rfl]
    rfl
  · intro t
    rw [am_pI_ne (by decide), am_pI_ne (by decide), am_pI_at]
  · intro t
    rw [am_pI_ne (by decide), am_pI_at, am_pI_ne (by decide)]
noncomputable def mhid (m : am_M) (n : Nat) (t r c : Int) : Int := if inR t 0 ((n : Int) - 1) && mth m r c then mf m (mbs m t.toNat) (mab m t.toNat) (16 * r + c).toNat else -2
theorem S_mhidden (m : am_M) (Q : Option Value → am_M → Prop) (hW : MW m) (n : Nat) (hT : mtw m n) (t r c : Int) (hbt : -2147483648 ≤ t ∧ t ≤ 2147483647) (hbr : -2147483648 ≤ r ∧ r ≤ 2147483647) (hbc : -2147483648 ≤ c ∧ c ≤ 2147483647) (h : ∀ m1, FrL m m1 → Q (some (.int (iI (if mhid m n t r c = -2 then -1 else mhid m n t r c)))) m1) :
    am_WP YL 172 0 0 0 [some (.ref 109), some (.int (iI t)), some (.int (iI r)), some (.int (iI c))] [] m Q := by
  have hn := hT.1
  refine B_X11_hidden_0 m Q _ _ _ ?_
  rw [hT.2.1, show (0 : Int32) = iI 0 from rfl, show (1 : Int32) = iI 1 from rfl, iI_sub]
  refine S_isIn m _ t 0 ((n : Int) - 1) (by omega) (by omega) (by omega) (by omega) (by omega) (by omega) (B_X11_hidden_11 m Q _ _ _ _ (bz (fun z => ?_) (fun z1 => ?_)))
  · have := h m (FrL.rf m)
    rw [show mhid m n t r c = -2 by unfold mhid; rw [z]; rfl] at this
    exact this
  refine S_isThere m _ r c (by omega) (by omega) (by omega) (by omega) (B_X11_hidden_20 m Q _ _ _ _ (bz' (fun z => ?_) (fun z2 => ?_)))
  · have := h m (FrL.rf m)
    rw [show mhid m n t r c = -2 by unfold mhid; rw [z, Bool.and_false]; rfl] at this
    exact this
  have y1 := of_decide_eq_true z1
  have hb := mth_b hW.2.2.2 z2
  have tb := mtw_b hT (show t.toNat < n by omega)
  rw [iI_cl (a := t) (by omega) (by omega), iI_in (a := t) (by omega) (by omega), tb.1, tb.2.2.1, show (16 : Int32) = iI 16 from rfl, iI_mul, iI_add]
  obtain ⟨q, hq⟩ : ∃ q : Nat, 16 * r + c = (q : Int) := ⟨(16 * r + c).toNat, by omega⟩
  rw [hq]
  refine ⟨by omega, by omega, S_barred m _ (mbs m t.toNat) q tb.2.1 (by omega) (mab m t.toNat) tb.2.2.2 hW.h (fun m1 f1 g1 g2 => B_X11_hidden_49 m1 Q _ ?_)⟩
  have := h m1 f1
  have e : mhid m n t r c = mf m (mbs m t.toNat) (mab m t.toNat) q := by unfold mhid; rw [z1, z2, hq, Int.toNat_natCast]; rfl
  rw [e, if_neg (by omega)] at this
  exact this
theorem S_msee (m : am_M) (Q : Option Value → am_M → Prop) (hW : MW m) (n : Nat) (hT : mtw m n) (t r c : Int) (hbt : -2147483648 ≤ t ∧ t ≤ 2147483647) (hbr : -2147483648 ≤ r ∧ r ≤ 2147483647) (hbc : -2147483648 ≤ c ∧ c ≤ 2147483647) (h : ∀ m1, FrL m m1 → Q (some (.int (iI (if mhid m n t r c = -2 then -1 else if mhid m n t r c = -1 then 1 else 0)))) m1) :
    am_WP YL 171 0 0 0 [some (.ref 109), some (.int (iI t)), some (.int (iI r)), some (.int (iI c))] [] m Q := by
  have hn := hT.1
  refine B_X11_see_0 m Q _ _ _ ?_
  rw [hT.2.1, show (0 : Int32) = iI 0 from rfl, show (1 : Int32) = iI 1 from rfl, iI_sub]
  refine S_isIn m _ t 0 ((n : Int) - 1) (by omega) (by omega) (by omega) (by omega) (by omega) (by omega) (B_X11_see_11 m Q _ _ _ _ (bz (fun z => ?_) (fun z1 => ?_)))
  · have := h m (FrL.rf m)
    rw [show mhid m n t r c = -2 by unfold mhid; rw [z]; rfl] at this
    exact this
  refine S_isThere m _ r c (by omega) (by omega) (by omega) (by omega) (B_X11_see_20 m Q _ _ _ _ (bz' (fun z => ?_) (fun z2 => ?_)))
  · have := h m (FrL.rf m)
    rw [show mhid m n t r c = -2 by unfold mhid; rw [z, Bool.and_false]; rfl] at this
    exact this
  have y1 := of_decide_eq_true z1
  have hb := mth_b hW.2.2.2 z2
  have tb := mtw_b hT (show t.toNat < n by omega)
  rw [iI_cl (a := t) (by omega) (by omega), iI_in (a := t) (by omega) (by omega), tb.1, tb.2.2.1, show (16 : Int32) = iI 16 from rfl, iI_mul, iI_add]
  obtain ⟨q, hq⟩ : ∃ q : Nat, 16 * r + c = (q : Int) := ⟨(16 * r + c).toNat, by omega⟩
  rw [hq]
  refine ⟨by omega, by omega, S_barred m _ (mbs m t.toNat) q tb.2.1 (by omega) (mab m t.toNat) tb.2.2.2 hW.h (fun m1 f1 g1 g2 => B_X11_see_49 m1 Q _ ?_)⟩
  have := h m1 f1
  have e : mhid m n t r c = mf m (mbs m t.toNat) (mab m t.toNat) q := by unfold mhid; rw [z1, z2, hq, Int.toNat_natCast]; rfl
  rw [e, if_neg (by omega)] at this
  rw [show (-1 : Int32) = iI (-1) from rfl, iI_eq (by omega) (by omega) (by omega) (by omega)]
  refine ⟨fun z => ?_, fun z => ?_⟩
  · rw [if_neg z] at this
    exact this
  · rw [if_pos z] at this
    exact this
def lok (mi dn rt sd : Int) : Bool := inR mi 0 9999 && (inR dn (-50) 50 && (inR rt (-50) 50 && ((!decide (dn = 0) || !decide (rt = 0)) && inR sd 0 400)))
theorem S_isLooked (m : am_M) (Q : Option Value → am_M → Prop) (mi dn rt sd : Int) (hbmi : -2147483648 ≤ mi ∧ mi ≤ 2147483647) (hbdn : -2147483648 ≤ dn ∧ dn ≤ 2147483647) (hbrt : -2147483648 ≤ rt ∧ rt ≤ 2147483647) (hbsd : -2147483648 ≤ sd ∧ sd ≤ 2147483647) (h : Q (some (.int (bI (lok mi dn rt sd)))) m) : am_WP YL 182 0 0 0 [some (.int (iI mi)), some (.int (iI dn)), some (.int (iI rt)), some (.int (iI sd))] [] m Q := by
  have no : lok mi dn rt sd = false → Q (some (.int 0)) m := fun z => by rw [z] at h; exact h
  have last : lok mi dn rt sd = inR sd 0 400 → am_WP YL 161 0 0 0 [some (.int (iI sd)), some (.int (iI 0)), some (.int (iI 400))] [] m (fun r1 m1 => am_WP YL 182 0 0 49 [none, none, none, none] (am_pu r1 []) m1 Q) := by
    intro e
    refine S_isIn m _ sd 0 400 (by omega) (by omega) (by omega) (by omega) (by omega) (by omega) (B_X11_isLooked_49 m Q _ (bz (fun z => no (by rw [e, z])) (fun z => ?_)))
    rw [e, z] at h
    exact h
  refine B_X11_isLooked_0 m Q _ _ _ _ ?_
  simp only [iI_lit]
  refine S_isIn m _ mi 0 9999 (by omega) (by omega) (by omega) (by omega) (by omega) (by omega) (B_X11_isLooked_8 m Q _ _ _ _ (bz (fun z => no (by unfold lok; rw [z, Bool.false_and])) (fun z1 => ?_)))
  simp only [iI_lit, iI_neg]
  refine S_isIn m _ dn (-50) 50 (by omega) (by omega) (by omega) (by omega) (by omega) (by omega) (B_X11_isLooked_19 m Q _ _ _ _ (bz (fun z => no (by unfold lok; rw [z, Bool.false_and, Bool.and_false])) (fun z2 => ?_)))
  simp only [iI_lit, iI_neg]
  refine S_isIn m _ rt (-50) 50 (by omega) (by omega) (by omega) (by omega) (by omega) (by omega) (B_X11_isLooked_30 m Q _ _ _ _ (bz (fun z => no (by unfold lok; rw [z, Bool.false_and, Bool.and_false, Bool.and_false])) (fun z3 => ?_)))
  have e1 : lok mi dn rt sd = ((!decide (dn = 0) || !decide (rt = 0)) && inR sd 0 400) := by unfold lok; rw [z1, z2, z3, Bool.true_and, Bool.true_and, Bool.true_and]
  simp (disch := omega) only [iI_lit, iI_eq]
  refine ⟨fun z => last (by rw [e1, decide_eq_false z]; rfl), fun z => ⟨fun y => no (by rw [e1, decide_eq_true z, decide_eq_true y]; rfl), fun y => last (by rw [e1, decide_eq_false y, Bool.not_false, Bool.or_true, Bool.true_and])⟩⟩
