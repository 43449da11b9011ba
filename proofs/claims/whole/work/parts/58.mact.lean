/-! ===== the reference: snapshots, places made ===== -/
def Acted (m m1 : am_M) (lt kp : Nat) : Prop := m1.1 109 14 = iI (((lt + 1) % 50 : Nat) : Int) ∧ m1.1 109 13 = iI ((if kp + 1 < 50 then kp + 1 else 50 : Nat) : Int) ∧ (∀ k, k < 350 → m1.1 117 (350 * ((lt + 1) % 50) + k) = m.1 115 k) ∧ (∀ j, j < 50 → j ≠ (lt + 1) % 50 → ∀ k, k < 350 → m1.1 117 (350 * j + k) = m.1 117 (350 * j + k)) ∧ (∀ k, k < 240 → m1.2.1 118 (240 * ((lt + 1) % 50) + k) = m.2.1 116 k) ∧ (∀ j, j < 50 → j ≠ (lt + 1) % 50 → ∀ k, k < 240 → m1.2.1 118 (240 * j + k) = m.2.1 118 (240 * j + k))
theorem sl_ne {w a b k l : Nat} (hk : k < w) (hl : l < w) (h : a ≠ b) : w * a + k ≠ w * b + l := by
  intro e
  rcases Nat.lt_or_gt_of_ne h with z | z
  · have : w * (a + 1) ≤ w * b := Nat.mul_le_mul_left w z
    rw [Nat.mul_add, Nat.mul_one] at this
    omega
  · have : w * (b + 1) ≤ w * a := Nat.mul_le_mul_left w z
    rw [Nat.mul_add, Nat.mul_one] at this
    omega
theorem S_act (m : am_M) (Q : Option Value → am_M → Prop) (lt kp : Nat) (hl : lt < 50) (hk : kp ≤ 50) (h14 : m.1 109 14 = iI (lt : Int)) (h13 : m.1 109 13 = iI (kp : Int)) (h : ∀ m1, Fm [117, 118] [13, 14] m m1 → Acted m m1 lt kp → Q none m1) : am_WP YL 176 0 0 0 [some (.ref 109), none] [] m Q := by
  refine B_X11_act_0 m Q ?_
  have e0 : (m.1 109 14 + (1 : Int32)) - (m.1 109 14 + (1 : Int32)) / (50 : Int32) * (50 : Int32) = iI (((lt + 1) % 50 : Nat) : Int) := by
    rw [h14]
    simp (disch := omega) only [iI_lit, iI_add, iI_div, iI_mul, iI_sub]
    congr 1
    omega
  rw [e0]
  obtain ⟨L, hL⟩ : ∃ L, L = (lt + 1) % 50 := ⟨_, rfl⟩
  have hL5 : L < 50 := by omega
  unfold Acted at h
  rw [← hL] at h ⊢
  have second : ∀ m0, Fm [117, 118] [13, 14] m m0 → m0.1 109 14 = iI (L : Int) → m0.1 109 13 = iI (kp : Int) → (∀ k, k < 350 → m0.1 117 (350 * L + k) = m.1 115 k) → (∀ j, j < 50 → j ≠ L → ∀ k, k < 350 → m0.1 117 (350 * j + k) = m.1 117 (350 * j + k)) → (m0.2.1 118 = m.2.1 118) → am_WP YL 176 0 0 51 [some (.ref 109), some (.int (iI ((0 : Nat) : Int)))] [] m0 Q := by
    intro m0 f0 a1 a2 a3 a4 a5
    have := lp (N := 240) (W := fun k m1 => am_WP YL 176 0 0 51 [some (.ref 109), some (.int (iI (k : Int)))] [] m1 Q) (fun k m1 => Fm [117, 118] [13, 14] m m1 ∧ m1.1 109 14 = iI (L : Int) ∧ m1.1 109 13 = iI (kp : Int) ∧ m1.1 117 = m0.1 117 ∧ (∀ i, i < k → m1.2.1 118 (240 * L + i) = m.2.1 116 i) ∧ (∀ j, j < 50 → j ≠ L → ∀ i, i < 240 → m1.2.1 118 (240 * j + i) = m.2.1 118 (240 * j + i))) (s := m0) ⟨f0, a1, a2, rfl, fun i hi => absurd hi (Nat.not_lt_zero i), fun j _ _ i _ => by rw [a5]⟩ ?_ ?_
    · exact this
    · rintro k m1 hk ⟨f1, b1, b2, b3, b4, b5⟩ ih
      refine B_X11_act_51 m1 Q _ ?_
      rw [b1]
      simp (disch := omega) only [iI_lit, iI_add, iI_mul, iI_le, iI_in, iI_cl, Int.toNat_natCast]
      have e1 : (240 * (L : Int) + (k : Int)).toNat = 240 * L + k := by omega
      rw [e1, f1.2.1 116 (by decide)]
      refine ⟨fun z => by omega, fun _ => ⟨by omega, by omega, ih _ ⟨f1.pJ (by decide) _ _, b1, b2, b3, ?_, ?_⟩⟩⟩
      · intro i hi
        rw [am_pJ_at]
        by_cases c : i = k
        · rw [c, if_pos rfl]
        · rw [if_neg (by omega)]
          exact b4 i (by omega)
      · intro j hj hjL i hi
        rw [am_pJ_at, if_neg (sl_ne hi hk hjL)]
        exact b5 j hj hjL i hi
    · rintro m1 ⟨f1, b1, b2, b3, b4, b5⟩
      refine B_X11_act_51 m1 Q _ ⟨fun _ => ?_, fun z => absurd (show (240 : Int32) ≤ iI ((240 : Nat) : Int) by decide) z⟩
      rw [b2]
      simp (disch := omega) only [iI_lit, iI_add, iI_lt, iI_ite]
      refine h _ (f1.pF (by decide) _) ⟨?_, ?_, ?_, ?_, b4, b5⟩
      · rw [am_pI_at, if_neg (by decide)]
        exact b1
      · rw [am_pI_at, if_pos rfl]
        congr 1
        split <;> split <;> omega
      · rw [am_pI_ne (by decide), b3]
        exact a3
      · rw [am_pI_ne (by decide), b3]
        exact a4
  have := lp (N := 350) (W := fun k m1 => am_WP YL 176 0 0 15 [some (.ref 109), some (.int (iI (k : Int)))] [] m1 Q) (fun k m1 => Fm [117, 118] [13, 14] m m1 ∧ m1.1 109 14 = iI (L : Int) ∧ m1.1 109 13 = iI (kp : Int) ∧ (∀ i, i < k → m1.1 117 (350 * L + i) = m.1 115 i) ∧ (∀ j, j < 50 → j ≠ L → ∀ i, i < 350 → m1.1 117 (350 * j + i) = m.1 117 (350 * j + i)) ∧ m1.2.1 118 = m.2.1 118) (s := am_pI m 109 14 (iI (L : Int))) ⟨(Fm.rf _ _ m).pF (by decide) _, by rw [am_pI_at, if_pos rfl], by rw [am_pI_at, if_neg (by decide)]; exact h13, fun i hi => absurd hi (Nat.not_lt_zero i), fun j _ _ i _ => by rw [am_pI_ne (by decide)], rfl⟩ ?_ ?_
  · exact this
  · rintro k m1 hk ⟨f1, b1, b2, b4, b5, b6⟩ ih
    refine B_X11_act_15 m1 Q _ ?_
    rw [b1]
    simp (disch := omega) only [iI_lit, iI_add, iI_mul, iI_le, iI_in, iI_cl, Int.toNat_natCast]
    have e1 : (350 * (L : Int) + (k : Int)).toNat = 350 * L + k := by omega
    rw [e1, f1.1 115 (by decide) (by decide)]
    refine ⟨fun z => by omega, fun _ => ⟨by omega, by omega, ih _ ⟨f1.pI (by decide) (by decide) _ _, ?_, ?_, ?_, ?_, b6⟩⟩⟩
    · rw [am_pI_ne (by decide)]; exact b1
    · rw [am_pI_ne (by decide)]; exact b2
    · intro i hi
      rw [am_pI_at]
      by_cases c : i = k
      · rw [c, if_pos rfl]
      · rw [if_neg (by omega)]
        exact b4 i (by omega)
    · intro j hj hjL i hi
      rw [am_pI_at, if_neg (sl_ne hi hk hjL)]
      exact b5 j hj hjL i hi
  · rintro m1 ⟨f1, b1, b2, b4, b5, b6⟩
    exact B_X11_act_15 m1 Q _ ⟨fun _ => second m1 f1 b1 b2 b4 b5 b6, fun z => absurd (show (350 : Int32) ≤ iI ((350 : Nat) : Int) by decide) z⟩
theorem S_mundo (m : am_M) (Q : Option Value → am_M → Prop) (lt kp : Nat) (hl : lt < 50) (hk : kp < 50) (h14 : m.1 109 14 = iI (lt : Int)) (h13 : m.1 109 13 = iI ((kp + 1 : Nat) : Int)) (h : ∀ m1, Fm [115, 116] [13, 14] m m1 → (∀ k, k < 350 → m1.1 115 k = m.1 117 (350 * lt + k)) → (∀ k, k < 240 → m1.2.1 116 k = m.2.1 118 (240 * lt + k)) → m1.1 109 14 = iI (((lt + 49) % 50 : Nat) : Int) → m1.1 109 13 = iI (kp : Int) → Q (some (.int 1)) m1) : am_WP YL 177 0 0 0 [some (.ref 109), none] [] m Q := by
  refine B_X11_undo_0 m Q ?_
  rw [h13]
  refine ⟨fun _ => ?_, fun z => absurd ((iI_eq (b := 0) (by omega) (by omega) (by omega) (by omega)).mp z) (by omega)⟩
  have second : ∀ m0, Fm [115, 116] [13, 14] m m0 → m0.1 109 = m.1 109 → (∀ k, k < 350 → m0.1 115 k = m.1 117 (350 * lt + k)) → am_WP YL 177 0 0 47 [some (.ref 109), some (.int (iI ((0 : Nat) : Int)))] [] m0 Q := by
    intro m0 f0 a1 a2
    have := lp (N := 240) (W := fun k m1 => am_WP YL 177 0 0 47 [some (.ref 109), some (.int (iI (k : Int)))] [] m1 Q) (fun k m1 => Fm [115, 116] [13, 14] m m1 ∧ m1.1 109 = m.1 109 ∧ m1.1 115 = m0.1 115 ∧ (∀ i, i < k → m1.2.1 116 i = m.2.1 118 (240 * lt + i))) (s := m0) ⟨f0, a1, rfl, fun i hi => absurd hi (Nat.not_lt_zero i)⟩ ?_ ?_
    · exact this
    · rintro k m1 hk ⟨f1, b1, b2, b3⟩ ih
      refine B_X11_undo_47 m1 Q _ ?_
      rw [b1, h14]
      refine ⟨fun z => absurd ((iI_le (a := 240) (by omega) (by omega) (by omega) (by omega)).mp z) (by omega), fun _ => ?_⟩
      simp (disch := omega) only [iI_lit, iI_add, iI_mul, iI_in, iI_cl, Int.toNat_natCast]
      have e1 : (240 * (lt : Int) + (k : Int)).toNat = 240 * lt + k := by omega
      rw [e1, f1.2.1 118 (by decide)]
      refine ⟨by omega, by omega, ih _ ⟨f1.pJ (by decide) _ _, b1, b2, ?_⟩⟩
      intro i hi
      rw [am_pJ_at]
      by_cases c : i = k
      · rw [c, if_pos rfl]
      · rw [if_neg c]
        exact b3 i (by omega)
    · rintro m1 ⟨f1, b1, b2, b3⟩
      refine B_X11_undo_47 m1 Q _ ⟨fun _ => ?_, fun z => absurd (show (240 : Int32) ≤ iI ((240 : Nat) : Int) by decide) z⟩
      rw [am_pI_at, if_neg (by decide), b1, h14, h13]
      have e0 : iI (lt : Int) + (50 : Int32) - (1 : Int32) - (iI (lt : Int) + (50 : Int32) - (1 : Int32)) / (50 : Int32) * (50 : Int32) = iI (((lt + 49) % 50 : Nat) : Int) := by
        simp (disch := omega) only [iI_lit, iI_add, iI_div, iI_mul, iI_sub]
        congr 1
        omega
      rw [e0, show (1 : Int32) = iI 1 from rfl, iI_sub, show ((kp + 1 : Nat) : Int) - 1 = (kp : Int) by omega]
      refine h _ ((f1.pF (by decide) _).pF (by decide) _) ?_ b3 ?_ ?_
      · rw [am_pI_ne (by decide), am_pI_ne (by decide), b2]
        exact a2
      · rw [am_pI_at, if_neg (by decide), am_pI_at, if_pos rfl]
      · rw [am_pI_at, if_pos rfl]
  have := lp (N := 350) (W := fun k m1 => am_WP YL 177 0 0 11 [some (.ref 109), some (.int (iI (k : Int)))] [] m1 Q) (fun k m1 => Fm [115, 116] [13, 14] m m1 ∧ m1.1 109 = m.1 109 ∧ (∀ i, i < k → m1.1 115 i = m.1 117 (350 * lt + i))) (s := m) ⟨Fm.rf _ _ m, rfl, fun i hi => absurd hi (Nat.not_lt_zero i)⟩ ?_ ?_
  · exact this
  · rintro k m1 hk ⟨f1, b1, b3⟩ ih
    refine B_X11_undo_11 m1 Q _ ?_
    rw [b1, h14]
    simp (disch := omega) only [iI_lit, iI_add, iI_mul, iI_le, iI_in, iI_cl, Int.toNat_natCast]
    have e1 : (350 * (lt : Int) + (k : Int)).toNat = 350 * lt + k := by omega
    rw [e1, f1.1 117 (by decide) (by decide)]
    refine ⟨fun z => by omega, fun _ => ⟨by omega, by omega, ih _ ⟨f1.pI (by decide) (by decide) _ _, ?_, ?_⟩⟩⟩
    · rw [am_pI_ne (by decide)]; exact b1
    · intro i hi
      rw [am_pI_at]
      by_cases c : i = k
      · rw [c, if_pos rfl]
      · rw [if_neg c]
        exact b3 i (by omega)
  · rintro m1 ⟨f1, b1, b3⟩
    exact B_X11_undo_11 m1 Q _ ⟨fun _ => second m1 f1 b1 b3, fun z => absurd (show (350 : Int32) ≤ iI ((350 : Nat) : Int) by decide) z⟩
theorem S_mundoNo (m : am_M) (Q : Option Value → am_M → Prop) (h13 : m.1 109 13 = 0) (h : Q (some (.int 0)) m) : am_WP YL 177 0 0 0 [some (.ref 109), none] [] m Q := by
  refine B_X11_undo_0 m Q ?_
  rw [h13]
  exact ⟨fun z => absurd rfl z, fun _ => h⟩
/-- a place made -/
theorem S_made (m : am_M) (Q : Option Value → am_M → Prop) (lt kp : Nat) (hl : lt < 50) (hk : kp ≤ 50) (h14 : m.1 109 14 = iI (lt : Int)) (h13 : m.1 109 13 = iI (kp : Int)) (kd wn : Int32)
    (h0 : kth (fun i => decide (m.1 115 i = 6)) 0 60 = -1 → Q (some (.int (-1))) m)
    (h : ∀ i : Nat, i < 60 → kth (fun i => decide (m.1 115 i = 6)) 0 60 = (i : Int) → ∀ m1, Fm [115, 116, 117, 118] [13, 14] m m1 → Acted m m1 lt kp → (∀ k, m1.1 115 k = if k = 240 + i ∨ k = 180 + i ∨ k = 120 + i then -1 else if k = 60 + i then wn else if k = i then kd else m.1 115 k) → (∀ j, m1.2.1 116 j = if 4 * i ≤ j ∧ j < 4 * i + 4 then 0 else m.2.1 116 j) → Q (some (.int (iI (i : Int)))) m1) :
    am_WP YL 183 0 0 0 [some (.ref 109), some (.int kd), some (.int wn), none, none] [] m Q := by
  refine B_X11_made_0 m Q _ _ (S_free m _ (B_X11_made_4 m Q _ _ _ ?_))
  by_cases hx : ∃ i, i < 60 ∧ (decide (m.1 115 i = 6)) = true ∧ (fb_ct (fun i => decide (m.1 115 i = 6)) i : Int) = 0
  · obtain ⟨i, hi, h1, h2⟩ := hx
    have hkt : kth (fun i => decide (m.1 115 i = 6)) 0 60 = (i : Int) := kth_at (p := fun i => decide (m.1 115 i = 6)) h1 h2 hi
    rw [hkt]
    refine ⟨fun _ => ?_, fun z => absurd ((iI_eq (b := -1) (by omega) (by omega) (by omega) (by omega)).mp z) (by omega)⟩
    refine S_act m _ lt kp hl hk h14 h13 (fun m1 f1 ac => B_X11_made_16 m1 Q _ _ _ ?_)
    simp (disch := omega) only [iI_lit, iI_add, iI_in, iI_cl]
    have e1 : (0 + (i : Int)).toNat = i := by omega
    have e2 : (60 + (i : Int)).toNat = 60 + i := by omega
    have e3 : (120 + (i : Int)).toNat = 120 + i := by omega
    have e4 : (180 + (i : Int)).toNat = 180 + i := by omega
    have e5 : (240 + (i : Int)).toNat = 240 + i := by omega
    rw [e1, e2, e3, e4, e5, show -iI 1 = (-1 : Int32) from rfl]
    refine ⟨by omega, by omega, by omega, by omega, by omega, ?_⟩
    have f2 : Fm [115, 116, 117, 118] [13, 14] m (am_pI (am_pI (am_pI (am_pI (am_pI m1 115 i kd) 115 (60 + i) wn) 115 (120 + i) (-1)) 115 (180 + i) (-1)) 115 (240 + i) (-1)) := (((((f1.sub (by decide) (by decide)).pI (by decide) (by decide) _ _).pI (by decide) (by decide) _ _).pI (by decide) (by decide) _ _).pI (by decide) (by decide) _ _).pI (by decide) (by decide) _ _
    have g2 : ∀ k, (am_pI (am_pI (am_pI (am_pI (am_pI m1 115 i kd) 115 (60 + i) wn) 115 (120 + i) (-1)) 115 (180 + i) (-1)) 115 (240 + i) (-1)).1 115 k = if k = 240 + i ∨ k = 180 + i ∨ k = 120 + i then -1 else if k = 60 + i then wn else if k = i then kd else m.1 115 k := by
      intro k
      rw [am_pI_at, am_pI_at, am_pI_at, am_pI_at, am_pI_at, f1.1 115 (by decide) (by decide)]
      by_cases c1 : k = 240 + i
      · rw [if_pos c1, if_pos (Or.inl c1)]
      · rw [if_neg c1]
        by_cases c2 : k = 180 + i
        · rw [if_pos c2, if_pos (Or.inr (Or.inl c2))]
        · rw [if_neg c2]
          by_cases c3 : k = 120 + i
          · rw [if_pos c3, if_pos (Or.inr (Or.inr c3))]
          · rw [if_neg c3, if_neg (show ¬ (k = 240 + i ∨ k = 180 + i ∨ k = 120 + i) by omega)]
    have g3 : Acted m (am_pI (am_pI (am_pI (am_pI (am_pI m1 115 i kd) 115 (60 + i) wn) 115 (120 + i) (-1)) 115 (180 + i) (-1)) 115 (240 + i) (-1)) lt kp := by
      unfold Acted at ac ⊢
      rw [am_pI_ne (by decide), am_pI_ne (by decide), am_pI_ne (by decide), am_pI_ne (by decide), am_pI_ne (by decide), am_pI_ne (by decide), am_pI_ne (by decide), am_pI_ne (by decide), am_pI_ne (by decide), am_pI_ne (by decide)]
      exact ac
    have g4 : ∀ j, (am_pI (am_pI (am_pI (am_pI (am_pI m1 115 i kd) 115 (60 + i) wn) 115 (120 + i) (-1)) 115 (180 + i) (-1)) 115 (240 + i) (-1)).2.1 116 j = m.2.1 116 j := fun j => by
      show m1.2.1 116 j = _
      rw [f1.2.1 116 (by decide)]
    generalize am_pI (am_pI (am_pI (am_pI (am_pI m1 115 i kd) 115 (60 + i) wn) 115 (120 + i) (-1)) 115 (180 + i) (-1)) 115 (240 + i) (-1) = m2 at f2 g2 g3 g4 ⊢
    have := lp (N := 4) (W := fun k m3 => am_WP YL 183 0 0 70 [some (.ref 109), none, none, some (.int (iI (i : Int))), some (.int (iI (k : Int)))] [] m3 Q) (fun k m3 => Fm [115, 116, 117, 118] [13, 14] m m3 ∧ Acted m m3 lt kp ∧ m3.1 115 = m2.1 115 ∧ (∀ j, m3.2.1 116 j = if 4 * i ≤ j ∧ j < 4 * i + k then 0 else m.2.1 116 j)) (s := m2) ⟨f2, g3, rfl, fun j => by rw [if_neg (by omega)]; exact g4 j⟩ ?_ ?_
    · exact this
    · rintro k m3 hk4 ⟨f3, b1, b2, b3⟩ ih
      refine B_X11_made_70 m3 Q _ _ ?_
      simp (disch := omega) only [iI_lit, iI_add, iI_mul, iI_le, iI_in, iI_cl]
      have e6 : (4 * (i : Int) + (k : Int)).toNat = 4 * i + k := by omega
      rw [e6]
      refine ⟨fun z => by omega, fun _ => ⟨by omega, ih _ ⟨f3.pJ (by decide) _ _, ?_, b2, ?_⟩⟩⟩
      · unfold Acted at b1 ⊢
        rw [am_pJ_ne (by decide)]
        exact b1
      · intro j
        rw [am_pJ_at, b3 j]
        by_cases c : j = 4 * i + k
        · rw [if_pos c, if_pos (by omega)]
        · rw [if_neg c]
          by_cases c2 : 4 * i ≤ j ∧ j < 4 * i + k
          · rw [if_pos c2, if_pos (by omega)]
          · rw [if_neg c2, if_neg (by omega)]
    · rintro m3 ⟨f3, b1, b2, b3⟩
      refine B_X11_made_70 m3 Q _ _ ⟨fun _ => h i hi hkt m3 f3 b1 ?_ b3, fun z => absurd (show (4 : Int32) ≤ iI ((4 : Nat) : Int) by decide) z⟩
      rw [b2]
      exact g2
  · have hkt : kth (fun i => decide (m.1 115 i = 6)) 0 60 = -1 := kth_no (fun q hq h1 h2 => hx ⟨q, hq, h1, h2⟩)
    rw [hkt]
    exact ⟨fun z => absurd rfl z, fun _ => h0 hkt⟩
