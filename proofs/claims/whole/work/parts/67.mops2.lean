/-! ===== the reference: log, fires, crews ===== -/
theorem Fm.h {A F : List Nat} {m m1 : am_M} (h : Fm A F m m1) (hb : 111 ∉ A) (hh : ∀ k, k < 256 → ((m.1 111 k).toInt).natAbs ≤ 3000) : ∀ k, k < 256 → ((m1.1 111 k).toInt).natAbs ≤ 3000 := by
  rw [h.1 111 hb (by decide)]
  exact hh
theorem mlk_fr {A F : List Nat} {m m1 : am_M} (h : Fm A F m m1) (ha : 110 ∉ A) (hb : 111 ∉ A) (f : Nat) (up dn rt sd rc : Int) (asks : Bool) (q : Nat) : mlk m1 f up dn rt sd rc asks q = mlk m f up dn rt sd rc asks q := by
  unfold mlk
  rw [h.th ha, h.mf ha hb]
/-- the first free place -/
def mfr (m : am_M) : Int := kth (fun i => decide (m.1 115 i = 6)) 0 60
/-- a place i made of kind kd, number wn, tower tw, reach rc -/
def Made (m m1 : am_M) (i : Nat) (kd wn tw rc : Int32) : Prop := ∀ k, m1.1 115 k = if k = 240 + i then rc else if k = 180 + i then -1 else if k = 120 + i then tw else if k = 60 + i then wn else if k = i then kd else m.1 115 k
theorem Acted.fr {m m1 m2 : am_M} {lt kp : Nat} (h : Acted m m1 lt kp) (h9 : m2.1 109 14 = m1.1 109 14) (h8 : m2.1 109 13 = m1.1 109 13) (h7 : m2.1 117 = m1.1 117) (h6 : m2.2.1 118 = m1.2.1 118) : Acted m m2 lt kp := by
  unfold Acted at h ⊢
  rw [h9, h8, h7, h6]
  exact h
theorem Made_of {m m1 : am_M} {i : Nat} {kd wn : Int32} (hi : i < 60) (h : ∀ k, m1.1 115 k = if k = 240 + i ∨ k = 180 + i ∨ k = 120 + i then -1 else if k = 60 + i then wn else if k = i then kd else m.1 115 k) : Made m m1 i kd wn (-1) (-1) := by
  intro k
  rw [h k]
  by_cases c1 : k = 240 + i
  · rw [if_pos (Or.inl c1), if_pos c1]
  · by_cases c2 : k = 180 + i
    · rw [if_pos (Or.inr (Or.inl c2)), if_neg c1, if_pos c2]
    · by_cases c3 : k = 120 + i
      · rw [if_pos (Or.inr (Or.inr c3)), if_neg c1, if_neg c2, if_pos c3]
      · rw [if_neg (by omega), if_neg c1, if_neg c2, if_neg c3]
theorem S_mreport (m : am_M) (Q : Option Value → am_M → Prop) (hW : MW m) (lt kp : Nat) (hl : lt < 50) (hk : kp ≤ 50) (h14 : m.1 109 14 = iI (lt : Int)) (h13 : m.1 109 13 = iI (kp : Int)) (r c mi dn rt sd : Int) (hbr : -2147483648 ≤ r ∧ r ≤ 2147483647) (hbc : -2147483648 ≤ c ∧ c ≤ 2147483647) (hbmi : -2147483648 ≤ mi ∧ mi ≤ 2147483647) (hbdn : -2147483648 ≤ dn ∧ dn ≤ 2147483647) (hbrt : -2147483648 ≤ rt ∧ rt ≤ 2147483647) (hbsd : -2147483648 ≤ sd ∧ sd ≤ 2147483647)
    (h0 : (mth m r c && lok mi dn rt sd) = false ∨ mfr m = -1 → Q (some (.int (-1))) m)
    (h1 : (mth m r c && lok mi dn rt sd) = true → ∀ i : Nat, i < 60 → mfr m = (i : Int) → ∀ m1, Fm [115, 116, 117, 118] [6, 7, 8, 13, 14] m m1 → Acted m m1 lt kp → Made m m1 i 4 (iI mi) (-1) (-1) → (∀ q, q < 256 → wb (mv m1 116 i) q = mlk m (16 * r + c).toNat 2 dn rt sd (-1) false q) → (∀ j, ¬ (4 * i ≤ j ∧ j < 4 * i + 4) → m1.2.1 116 j = m.2.1 116 j) → Q (some (.int (iI (i : Int)))) m1) :
    am_WP YL 185 0 0 0 [some (.ref 109), some (.int (iI r)), some (.int (iI c)), some (.int (iI mi)), some (.int (iI dn)), some (.int (iI rt)), some (.int (iI sd)), none] [] m Q := by
  refine B_X11_report_0 m Q _ _ _ _ _ _ (S_isThere m _ r c (by omega) (by omega) (by omega) (by omega) (B_X11_report_6 m Q _ _ _ _ _ _ _ (bz (fun z => h0 (Or.inl (by rw [z, Bool.false_and]))) (fun z1 => ?_))))
  refine S_isLooked m _ mi dn rt sd hbmi hbdn hbrt hbsd (B_X11_report_19 m Q _ _ _ _ _ _ _ (bz' (fun z => h0 (Or.inl (by rw [z, Bool.and_false]))) (fun z2 => ?_)))
  have hb := mth_b hW.2.2.2 z1
  obtain ⟨y1, y⟩ := Bool.and_eq_true_iff.mp z2
  obtain ⟨y2, y⟩ := Bool.and_eq_true_iff.mp y
  obtain ⟨y3, y⟩ := Bool.and_eq_true_iff.mp y
  obtain ⟨y4, y5⟩ := Bool.and_eq_true_iff.mp y
  have y2 := of_decide_eq_true y2
  have y3 := of_decide_eq_true y3
  have y5 := of_decide_eq_true y5
  obtain ⟨q, hq⟩ : ∃ q : Nat, 16 * r + c = (q : Int) := ⟨(16 * r + c).toNat, by omega⟩
  refine S_made m _ lt kp hl hk h14 h13 4 (iI mi) (fun z => ?_) (fun i hi hfr m1 f1 ac st sn => ?_)
  · exact B_X11_report_30 m Q _ _ _ _ _ _ ⟨fun _ => h0 (Or.inr z), fun w => absurd rfl w⟩
  · refine B_X11_report_30 m1 Q _ _ _ _ _ _ ⟨fun w => absurd ((iI_eq (b := -1) (by omega) (by omega) (by omega) (by omega)).mp w) (by omega), fun _ => ?_⟩
    rw [show (16 : Int32) = iI 16 from rfl, iI_mul, iI_add, hq, show (2 : Int32) = iI 2 from rfl, show (-1 : Int32) = iI (-1) from rfl]
    refine S_look m1 _ 116 240 i rfl rfl (by omega) (by decide) q (by omega) 2 dn rt sd (-1) false (by decide) (by omega) (by omega) (by omega) (by decide) (f1.h (by decide) hW.h) (fun m2 f2 w2 => B_X11_report_63 m2 Q _ ?_)
    have g : Fm [115, 116, 117, 118] [6, 7, 8, 13, 14] m m2 := (f1.sub (by decide) (by decide)).tr (Fm.S f2 (by decide) (by decide))
    refine h1 (by rw [z1, z2]; rfl) i hi hfr m2 g (ac.fr (f2.2.1 14 (by decide) (by decide) (by decide)) (f2.2.1 13 (by decide) (by decide) (by decide)) (f2.1 117 (by decide)) (f2.2.2.1 118 (by decide))) ?_ ?_ ?_
    · unfold Made
      rw [f2.1 115 (by decide)]
      exact Made_of hi st
    · intro q' hq'
      rw [w2 q' hq', hq, Int.toNat_natCast, mlk_fr f1 (by decide) (by decide)]
    · intro j hj
      rw [f2.2.2.2.1 j hj, sn j, if_neg hj]
theorem S_mremark (m : am_M) (Q : Option Value → am_M → Prop) (lt kp : Nat) (hl : lt < 50) (hk : kp ≤ 50) (h14 : m.1 109 14 = iI (lt : Int)) (h13 : m.1 109 13 = iI (kp : Int)) (v : Int32)
    (h0 : mfr m = -1 → Q (some (.int (-1))) m)
    (h1 : ∀ i : Nat, i < 60 → mfr m = (i : Int) → ∀ m1, Fm [115, 116, 117, 118] [6, 7, 8, 13, 14] m m1 → Acted m m1 lt kp → Made m m1 i 5 v (-1) (-1) → (∀ j, ¬ (4 * i ≤ j ∧ j < 4 * i + 4) → m1.2.1 116 j = m.2.1 116 j) → Q (some (.int (iI (i : Int)))) m1) :
    am_WP YL 186 0 0 0 [some (.ref 109), some (.int v)] [] m Q := by
  refine B_X11_remark_0 m Q _ (S_made m _ lt kp hl hk h14 h13 5 v (fun z => B_X11_remark_6 m Q _ (h0 z)) (fun i hi hfr m1 f1 ac st sn => B_X11_remark_6 m1 Q _ (h1 i hi hfr m1 (f1.sub (by decide) (by decide)) ac (Made_of hi st) (fun j hj => by rw [sn j, if_neg hj]))))
def mclok (m : am_M) (i : Int) : Bool := inR i 0 59 && (!decide (m.1 115 i.toNat = 6) && (decide (5 ≤ (m.1 115 i.toNat).toInt) || decide (m.1 115 (180 + i.toNat) = -1)))
theorem S_mclear (m : am_M) (Q : Option Value → am_M → Prop) (lt kp : Nat) (hl : lt < 50) (hk : kp ≤ 50) (h14 : m.1 109 14 = iI (lt : Int)) (h13 : m.1 109 13 = iI (kp : Int)) (i : Int) (hbi : -2147483648 ≤ i ∧ i ≤ 2147483647)
    (h0 : mclok m i = false → Q (some (.int 0)) m) (h1 : mclok m i = true → ∀ m1, Fm [115, 117, 118] [13, 14] m m1 → Acted m m1 lt kp → (∀ k, m1.1 115 k = if k = i.toNat then 6 else m.1 115 k) → Q (some (.int 1)) m1) :
    am_WP YL 187 0 0 0 [some (.ref 109), some (.int (iI i))] [] m Q := by
  refine B_X11_clear_0 m Q _ ?_
  simp only [iI_lit]
  refine S_isIn m _ i 0 59 (by omega) (by omega) (by omega) (by omega) (by omega) (by omega) (B_X11_clear_7 m Q _ _ (bz (fun z => h0 (by unfold mclok; rw [z, Bool.false_and])) (fun z1 => ?_)))
  have y1 := of_decide_eq_true z1
  obtain ⟨i, rfl⟩ : ∃ n : Nat, i = n := ⟨i.toNat, by omega⟩
  have b := iI_b (m.1 115 i)
  have ek : mclok m i = (!decide (m.1 115 i = 6) && (decide (5 ≤ (m.1 115 i).toInt) || decide (m.1 115 (180 + i) = -1))) := by
    unfold mclok
    rw [z1, Bool.true_and, Int.toNat_natCast]
  rw [Int.toNat_natCast] at h1
  have go : mclok m i = true → am_WP YL 176 0 0 0 [some (.ref 109), none] [] m (fun r1 m1 => am_WP YL 187 0 0 55 [some (.ref 109), some (.int (iI (i : Int)))] (am_pu r1 []) m1 Q) := by
    intro hk2
    refine S_act m _ lt kp hl hk h14 h13 (fun m1 f1 ac => B_X11_clear_55 m1 Q _ ?_)
    rw [show (0 : Int32) = iI 0 from rfl, iI_add, iI_cl (by omega) (by omega), iI_in (by omega) (by omega), show (0 + (i : Int)).toNat = i by omega]
    refine ⟨by omega, h1 hk2 _ ((f1.sub (by decide) (by decide)).pI (by decide) (by decide) _ _) (ac.fr (by rw [am_pI_ne (by decide)]) (by rw [am_pI_ne (by decide)]) (by rw [am_pI_ne (by decide)]) rfl) (fun k => ?_)⟩
    rw [am_pI_at, f1.1 115 (by decide) (by decide)]
  have e1 : ((0 : Int32) + iI (i : Int)) = iI (i : Int) := by rw [show (0 : Int32) = iI 0 from rfl, iI_add, Int.zero_add]
  have e2 : ((180 : Int32) + iI (i : Int)) = iI ((180 + i : Nat) : Int) := iI_add 180 _
  rw [e1, e2, iI_cl (by omega) (by omega), iI_cl (by omega) (by omega), Int.toNat_natCast, Int.toNat_natCast, iI_in (by omega) (by omega), iI_in (by omega) (by omega)]
  refine ⟨by omega, fun z => h0 (by rw [ek, decide_eq_true z]; rfl), fun z => ⟨by omega, fun y => go ?_, fun y => ⟨by omega, fun x => go ?_, fun x => h0 ?_⟩⟩⟩
  · rw [← iI_self (m.1 115 i), show (5 : Int32) = iI 5 from rfl, iI_le (by omega) (by omega) (by omega) (by omega)] at y
    rw [ek, decide_eq_false z, decide_eq_true y]
    rfl
  · rw [ek, decide_eq_false z, decide_eq_true x, Bool.or_true]
    rfl
  · rw [← iI_self (m.1 115 i), show (5 : Int32) = iI 5 from rfl, iI_le (by omega) (by omega) (by omega) (by omega)] at y
    rw [ek, decide_eq_false y, decide_eq_false x]
    cases decide (m.1 115 i = 6) <;> rfl
theorem S_msquares (m : am_M) (Q : Option Value → am_M → Prop) (i k : Int) (hbi : -2147483648 ≤ i ∧ i ≤ 2147483647) (hbk : -2147483648 ≤ k ∧ k ≤ 2147483647) (h : Q (some (.int (iI (if msi m i then kth (wb (mv m 116 i.toNat)) k 256 else -1)))) m) : am_WP YL 189 0 0 0 [some (.ref 109), some (.int (iI i)), some (.int (iI k))] [] m Q := by
  refine B_X11_squares_0 m Q _ _ (S_msi m _ i hbi (B_X11_squares_5 m Q _ _ _ (bz (fun z => ?_) (fun z => ?_))))
  · rw [z] at h
    exact h
  · have y := of_decide_eq_true z
    rw [if_pos z] at h
    obtain ⟨i, rfl⟩ : ∃ n : Nat, i = n := ⟨i.toNat, by omega⟩
    exact S_mkth m _ 116 240 i rfl rfl (by omega) (by decide) k (by omega) (by omega) (B_X11_squares_17 m Q _ h)
theorem S_mjoin (m : am_M) (Q : Option Value → am_M → Prop) (E : Nat) (hE : E ≤ 20) (h348 : m.1 115 348 = iI (E : Int)) (lt kp : Nat) (hl : lt < 50) (hk : kp ≤ 50) (h14 : m.1 109 14 = iI (lt : Int)) (h13 : m.1 109 13 = iI (kp : Int)) (i f : Int) (hbi : -2147483648 ≤ i ∧ i ≤ 2147483647) (hbf : -2147483648 ≤ f ∧ f ≤ 2147483647)
    (h0 : mfits m i f = false → ∀ m1, Fm [119] [] m m1 → Q (some (.int 0)) m1) (h1 : mfits m i f = true → ∀ m1, Fm [115, 117, 118, 119] [13, 14] m m1 → Acted m m1 lt kp → (∀ k, m1.1 115 k = if k = 180 + i.toNat then iI f else m.1 115 k) → Q (some (.int 1)) m1) :
    am_WP YL 195 0 0 0 [some (.ref 109), some (.int (iI i)), some (.int (iI f))] [] m Q := by
  refine B_X11_join_0 m Q _ _ (S_fits m _ E hE h348 i f hbi hbf (fun m1 f1 => B_X11_join_6 m1 Q _ _ _ (bz' (fun z => h0 z m1 f1) (fun z => ?_))))
  have hs := (Bool.and_eq_true_iff.mp z).1
  have hs := of_decide_eq_true hs
  refine S_act m1 _ lt kp hl hk (by rw [f1.2.2.1 14 (by decide)]; exact h14) (by rw [f1.2.2.1 13 (by decide)]; exact h13) (fun m2 f2 ac => B_X11_join_15 m2 Q _ _ ?_)
  have ac1 : Acted m m2 lt kp := by
    unfold Acted at ac ⊢
    rw [← f1.1 115 (by decide) (by decide), ← f1.1 117 (by decide) (by decide), ← f1.2.1 116 (by decide), ← f1.2.1 118 (by decide)]
    exact ac
  rw [show (180 : Int32) = iI 180 from rfl, iI_add, iI_cl (by omega) (by omega), iI_in (by omega) (by omega), show (180 + i).toNat = 180 + i.toNat by omega]
  refine ⟨by omega, h1 z _ (((f1.sub (by decide) (by decide)).tr (f2.sub (by decide) (by decide))).pI (by decide) (by decide) _ _) (ac1.fr (by rw [am_pI_ne (by decide)]) (by rw [am_pI_ne (by decide)]) (by rw [am_pI_ne (by decide)]) rfl) (fun k => ?_)⟩
  rw [am_pI_at, f2.1 115 (by decide) (by decide), f1.1 115 (by decide) (by decide)]
/-- the last fire that is out and meets the sighting -/
def mag (m : am_M) (i f : Nat) : Bool := decide (m.1 115 (300 + f) = 1) && mtb (mpt m (iI (f : Int)) 60) (wb (mv m 116 i))
def mbok (m : am_M) (i : Int) (E : Nat) : Bool := msi m i && (decide (m.1 115 (180 + i.toNat) = -1) && (!decide (fb_ct (wb (mv m 116 i.toNat)) 256 = 0) && !decide (E = 20)))
theorem S_mbegin (m : am_M) (Q : Option Value → am_M → Prop) (E : Nat) (hE : E ≤ 20) (h348 : m.1 115 348 = iI (E : Int)) (lt kp : Nat) (hl : lt < 50) (hk : kp ≤ 50) (h14 : m.1 109 14 = iI (lt : Int)) (h13 : m.1 109 13 = iI (kp : Int)) (i : Int) (hbi : -2147483648 ≤ i ∧ i ≤ 2147483647)
    (h0 : mbok m i E = false → Q (some (.int (-1))) m) (h1 : mbok m i E = true → ∀ m1, Fm [115, 117, 118, 119] [13, 14] m m1 → Acted m m1 lt kp → (∀ k, m1.1 115 k = if k = 180 + i.toNat then iI (E : Int) else if k = 320 + E then iI (lst (mag m i.toNat) E) else if k = 300 + E then 0 else if k = 348 then iI ((E + 1 : Nat) : Int) else m.1 115 k) → Q (some (.int (iI (E : Int)))) m1) :
    am_WP YL 196 0 0 0 [some (.ref 109), some (.int (iI i)), none, none, none] [] m Q := by
  refine B_X11_begin_0 m Q _ (S_msi m _ i hbi (B_X11_begin_5 m Q _ _ (bz (fun z => h0 (by unfold mbok; rw [z, Bool.false_and])) (fun z1 => ?_))))
  have y1 := of_decide_eq_true z1
  obtain ⟨i, rfl⟩ : ∃ n : Nat, i = n := ⟨i.toNat, by omega⟩
  have ek : mbok m i E = (decide (m.1 115 (180 + i) = -1) && (!decide (fb_ct (wb (mv m 116 i)) 256 = 0) && !decide (E = 20))) := by unfold mbok; rw [z1, Bool.true_and, Int.toNat_natCast]
  rw [Int.toNat_natCast] at h1
  have e2 : ((180 : Int32) + iI (i : Int)) = iI ((180 + i : Nat) : Int) := iI_add 180 _
  have cl := fb_ct_le (wb (mv m 116 i)) 256
  rw [e2, iI_cl (by omega) (by omega), Int.toNat_natCast, iI_in (by omega) (by omega)]
  refine ⟨by omega, fun z => h0 (by rw [ek, decide_eq_false z, Bool.false_and]), fun z2 => S_msize m _ 116 240 i rfl rfl (by omega) (by decide) (B_X11_begin_30 m Q _ _ ?_)⟩
  rw [show (0 : Int32) = iI 0 from rfl, iI_eq (by omega) (by omega) (by omega) (by omega), show (348 : Int32).toNatClampNeg = 348 from rfl, h348, show (20 : Int32) = iI 20 from rfl, iI_eq (by omega) (by omega) (by omega) (by omega)]
  refine ⟨fun z => h0 (by rw [ek, decide_eq_true (show fb_ct (wb (mv m 116 i)) 256 = 0 by omega), Bool.not_true, Bool.false_and, Bool.and_false]), fun z3 => ⟨fun z4 => ?_, fun z => h0 (by rw [ek, decide_eq_true (show E = 20 by omega), Bool.not_true, Bool.and_false, Bool.and_false])⟩⟩
  have hok : mbok m i E = true := by rw [ek, decide_eq_true z2, decide_eq_false (show ¬ fb_ct (wb (mv m 116 i)) 256 = 0 by omega), decide_eq_false (show ¬ E = 20 by omega)]; rfl
  have lb := lst_b (mag m i)
  have := lp (N := E) (W := fun f m1 => am_WP YL 196 0 0 52 [some (.ref 109), some (.int (iI (i : Int))), some (.int (iI (lst (mag m i) f))), some (.int (iI (f : Int))), none] [] m1 Q) (fun f m1 => Fm [119] [] m m1) (s := m) (Fm.rf _ _ m) ?_ ?_
  · exact this
  · intro f m1 hf f1 ih
    have lbf := lb f
    have e3 : ((300 : Int32) + iI (f : Int)) = iI ((300 + f : Nat) : Int) := iI_add 300 _
    refine B_X11_begin_52 m1 Q _ _ _ ?_
    rw [show (348 : Int32).toNatClampNeg = 348 from rfl, f1.1 115 (by decide) (by decide), h348, iI_le (by omega) (by omega) (by omega) (by omega), e3, iI_cl (by omega) (by omega), Int.toNat_natCast, iI_in (by omega) (by omega), iI_i1]
    have nx : ∀ m2, Fm [119] [] m m2 → mag m i f = false → am_WP YL 196 0 0 52 [some (.ref 109), some (.int (iI (i : Int))), some (.int (iI (lst (mag m i) f))), some (.int (iI ((f : Int) + 1))), none] [] m2 Q := by
      intro m2 f2 w
      have e : lst (mag m i) (f + 1) = lst (mag m i) f := if_neg (by rw [w]; decide)
      have := ih m2 f2
      rw [e] at this
      exact this
    refine ⟨fun w => by omega, fun _ => ⟨by omega, fun w => ?_, fun w => nx m1 f1 (by unfold mag; rw [decide_eq_false w, Bool.false_and])⟩⟩
    refine S_mpatch m1 _ (iI (f : Int)) (fun m2 f2 w2 => B_X11_begin_86 m2 Q _ _ _ _ (S_mmeets m2 _ i (by omega) (B_X11_begin_93 m2 Q _ _ _ _ ?_)))
    have g2 : Fm [119] [] m m2 := f1.tr f2
    have em : wm (mv m2 119 0) (mv m2 116 i) = mtb (mpt m (iI (f : Int)) 60) (wb (mv m 116 i)) := by
      rw [wm_mtb]
      have e115 : m1.1 115 = m.1 115 := f1.1 115 (by decide) (by decide)
      have ep : ∀ k q, mal m1 (iI (f : Int)) k q = mal m (iI (f : Int)) k q := by
        intro k q
        induction k with
        | zero => rfl
        | succ k ihk =>
          show (mal m1 _ k q && _) = (mal m _ k q && _)
          rw [ihk]
          unfold mjn msi mv
          rw [e115, f1.2.1 116 (by decide)]
      have ej : mjn m1 (iI (f : Int)) = mjn m (iI (f : Int)) := by
        funext k
        unfold mjn msi
        rw [e115]
      refine mtb_cong (fun q hq => ?_) (fun q _ => ?_)
      · rw [w2 q hq]
        unfold mpt
        rw [ep, ej]
      · have : mv m2 116 i = mv m 116 i := by unfold mv; rw [g2.2.1 116 (by decide)]
        rw [this]
    rw [em, iI_i1]
    refine bz (fun v => nx m2 g2 (by unfold mag; rw [v, Bool.and_false])) (fun v => ?_)
    have e : lst (mag m i) (f + 1) = (f : Int) := if_pos (by unfold mag; rw [decide_eq_true w, v]; rfl)
    have := ih m2 g2
    rw [e] at this
    exact this
  · intro m1 f1
    refine B_X11_begin_52 m1 Q _ _ _ ?_
    rw [show (348 : Int32).toNatClampNeg = 348 from rfl, f1.1 115 (by decide) (by decide), h348]
    refine ⟨fun _ => ?_, fun w => absurd ((iI_le (by omega) (by omega) (by omega) (by omega)).mpr (Int.le_refl _)) w⟩
    refine S_act m1 _ lt kp hl hk (by rw [f1.2.2.1 14 (by decide)]; exact h14) (by rw [f1.2.2.1 13 (by decide)]; exact h13) (fun m2 f2 ac => B_X11_begin_108 m2 Q _ _ ?_)
    have ac1 : Acted m m2 lt kp := by
      unfold Acted at ac ⊢
      rw [← f1.1 115 (by decide) (by decide), ← f1.1 117 (by decide) (by decide), ← f1.2.1 116 (by decide), ← f1.2.1 118 (by decide)]
      exact ac
    have e115 : m2.1 115 = m.1 115 := (f2.1 115 (by decide) (by decide)).trans (f1.1 115 (by decide) (by decide))
    have e3 : ((300 : Int32) + iI (E : Int)) = iI ((300 + E : Nat) : Int) := iI_add 300 _
    have e4 : ((320 : Int32) + iI (E : Int)) = iI ((320 + E : Nat) : Int) := iI_add 320 _
    rw [show (348 : Int32).toNatClampNeg = 348 from rfl, e115, h348, e3, e4, e2, iI_cl (by omega) (by omega), iI_cl (by omega) (by omega), iI_cl (by omega) (by omega), Int.toNat_natCast, Int.toNat_natCast, Int.toNat_natCast, iI_in (by omega) (by omega), iI_in (by omega) (by omega), iI_in (by omega) (by omega), iI_i1]
    refine ⟨by omega, by omega, by omega, h1 hok _ ((((((f1.sub (by decide) (by decide)).tr (f2.sub (by decide) (by decide))).pI (by decide) (by decide) _ _).pI (by decide) (by decide) _ _).pI (by decide) (by decide) _ _).pI (by decide) (by decide) _ _) (ac1.fr (by rw [am_pI_ne (by decide), am_pI_ne (by decide), am_pI_ne (by decide), am_pI_ne (by decide)]) (by rw [am_pI_ne (by decide), am_pI_ne (by decide), am_pI_ne (by decide), am_pI_ne (by decide)]) (by rw [am_pI_ne (by decide), am_pI_ne (by decide), am_pI_ne (by decide), am_pI_ne (by decide)]) rfl) (fun k => ?_)⟩
    rw [am_pI_at, am_pI_at, am_pI_at, am_pI_at, e115]
    rfl
