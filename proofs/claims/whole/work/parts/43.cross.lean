/-! ===== the reference's line ===== -/
/-- only the reference's three words of a line have changed -/
def FrL (m m1 : am_M) : Prop := (∀ a, a ≠ 109 → m1.1 a = m.1 a) ∧ (∀ j, j ≠ 6 → j ≠ 7 → j ≠ 8 → m1.1 109 j = m.1 109 j) ∧ m1.2 = m.2
theorem FrL.rf (m : am_M) : FrL m m := ⟨fun _ _ => rfl, fun _ _ _ _ => rfl, rfl⟩
theorem FrL.tr {m m1 m2 : am_M} (h1 : FrL m m1) (h2 : FrL m1 m2) : FrL m m2 := ⟨fun a h => (h2.1 a h).trans (h1.1 a h), fun j a b c => (h2.2.1 j a b c).trans (h1.2.1 j a b c), h2.2.2.trans h1.2.2⟩
theorem FrL.p {m m1 : am_M} (h : FrL m m1) {j : Nat} (hj : j = 6 ∨ j = 7 ∨ j = 8) (v : Int32) : FrL m (am_pI m1 109 j v) := by
  refine ⟨fun a ha => (am_pI_ne ha).trans (h.1 a ha), fun k a b c => ?_, h.2.2⟩
  rw [am_pI_at, if_neg (by omega)]
  exact h.2.1 k a b c
theorem S_crosses (m : am_M) (Q : Option Value → am_M → Prop) (x y z k wy : Nat) (hx : x ≤ 15) (hy : y ≤ 15) (hz : z ≤ 15) (hb : (x ≤ z ∧ z ≤ y) ∨ (y ≤ z ∧ z ≤ x)) (hk : (k : Int) = if (x : Int) ≤ y then (z : Int) - x else (x : Int) - z) (hw : (wy : Int) = if (x : Int) ≤ y then (y : Int) - x else (x : Int) - y)
    (p w a b : Int) (hp : 1 ≤ p ∧ p ≤ 15) (hwp : 0 < wy → w = 2 * p * wy) (ha : 0 ≤ a ∧ a ≤ 1000) (hb2 : 0 ≤ b ∧ b ≤ 1000) (hw0 : 0 ≤ w ∧ w ≤ 450) (ma : m.1 109 6 = iI a) (mb : m.1 109 7 = iI b)
    (h : ∀ m1, FrL m m1 → m1.1 109 8 = m.1 109 8 → m1.1 109 6 = iI (if wy = 0 then a else if a < (2 * (k : Int) - 1) * p then (2 * (k : Int) - 1) * p else a) → m1.1 109 7 = iI (if wy = 0 then b else if (2 * (k : Int) + 1) * p < b then (2 * (k : Int) + 1) * p else b) →
      Q (some (.int (bI (decide (wy = 0) || decide ((if a < (2 * (k : Int) - 1) * p then (2 * (k : Int) - 1) * p else a) < (if (2 * (k : Int) + 1) * p < b then (2 * (k : Int) + 1) * p else b)))))) m1) :
    am_WP YL 168 0 0 0 [some (.ref 109), some (.int (iI (x : Int))), some (.int (iI (y : Int))), some (.int (iI (z : Int))), some (.int (iI w)), none, none, none] [] m Q := by
  refine B_X11_crosses_0 m Q _ _ _ _ ?_
  simp (disch := omega) only [iI_lit, iI_sub, iI_eq]
  have hkb : k ≤ 15 := by split at hk <;> omega
  refine ⟨fun c => ?_, fun c => ?_⟩
  · have hwy : wy ≠ 0 := by split at hw <;> omega
    have q1 : ((2 * (k : Int) - 1) * p).natAbs ≤ 30 * 15 := pbd (by omega) (by omega)
    have q2 : ((2 * (k : Int) + 1) * p).natAbs ≤ 31 * 15 := pbd (by omega) (by omega)
    rw [if_neg hwy, if_neg hwy, decide_eq_false hwy, Bool.false_or] at h
    have key : ∀ l5 l6 : Int, l5 = (wy : Int) → l6 = (k : Int) → am_WP YL 168 0 0 41 [some (.ref 109), none, none, none, some (.int (iI w)), some (.int (iI l5)), some (.int (iI l6)), none] [] m Q := by
      rintro _ _ rfl rfl
      have hwb : wy ≤ 15 := by split at hw <;> omega
      refine B_X11_crosses_41 m Q _ _ _ ?_
      simp (disch := omega) only [iI_lit, iI_mul, iI_eq, iI_div]
      refine ⟨by omega, ?_⟩
      have e : w / (2 * (wy : Int)) = p := by
        rw [hwp (by omega), Int.mul_right_comm]
        exact Int.mul_ediv_cancel_left p (by omega)
      rw [e]
      refine B_X11_crosses_50 m Q _ _ ?_
      rw [ma]
      simp (disch := omega) only [iI_lit, iI_mul, iI_sub, iI_lt, iI_ite]
      generalize hA : (if a < (2 * (k : Int) - 1) * p then (2 * (k : Int) - 1) * p else a) = A at h ⊢
      refine B_X11_crosses_70 _ Q _ _ ?_
      rw [show (am_pI m 109 6 (iI A)).1 109 7 = iI b by rw [am_pI_at, if_neg (by decide), mb]]
      simp (disch := omega) only [iI_lit, iI_mul, iI_add, iI_lt, iI_ite]
      generalize hB : (if (2 * (k : Int) + 1) * p < b then (2 * (k : Int) + 1) * p else b) = B at h ⊢
      refine B_X11_crosses_90 _ Q ?_
      have bA : -2147483648 ≤ A ∧ A ≤ 2147483647 := by rw [← hA]; split <;> omega
      have bB : -2147483648 ≤ B ∧ B ≤ 2147483647 := by rw [← hB]; split <;> omega
      have r6 : (am_pI (am_pI m 109 6 (iI A)) 109 7 (iI B)).1 109 6 = iI A := by rw [am_pI_at, if_neg (by decide), am_pI_at, if_pos rfl]
      have r7 : (am_pI (am_pI m 109 6 (iI A)) 109 7 (iI B)).1 109 7 = iI B := by rw [am_pI_at, if_pos rfl]
      have hm := h (am_pI (am_pI m 109 6 (iI A)) 109 7 (iI B)) (((FrL.rf m).p (Or.inl rfl) _).p (Or.inr (Or.inl rfl)) _) (by rw [am_pI_at, if_neg (by decide), am_pI_at, if_neg (by decide)]) r6 r7
      rw [r6, r7, iI_le bB.1 bB.2 bA.1 bA.2]
      refine ⟨fun u => ?_, fun u => ?_⟩
      · rw [decide_eq_false (by omega)] at hm
        exact hm
      · rw [decide_eq_true (by omega)] at hm
        exact hm
    refine B_X11_crosses_26 m Q _ _ _ ?_
    simp (disch := omega) only [iI_lit, iI_neg, iI_le]
    refine ⟨fun u => key _ _ ?_ ?_, fun u => key _ _ ?_ ?_⟩
    · rw [hw, if_pos (by omega)]
    · rw [hk, if_pos (by omega)]
    · rw [hw, if_neg (by omega)]; omega
    · rw [hk, if_neg (by omega)]; omega
  · have hwy : wy = 0 := by split at hw <;> omega
    rw [if_pos hwy, if_pos hwy, decide_eq_true hwy, Bool.true_or] at h
    refine ⟨fun u => by omega, fun _ => h m (FrL.rf m) rfl ma mb⟩
