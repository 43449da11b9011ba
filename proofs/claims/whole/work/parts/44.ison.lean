/-! ===== isOn ===== -/
theorem ln_l0 {p : Int} {i : Nat} (hp : 1 ≤ p) : 0 ≤ ln_l p i ∧ ln_l p i = if 0 < (2 * (i : Int) - 1) * p then (2 * (i : Int) - 1) * p else 0 := by
  unfold ln_l
  by_cases c : i = 0
  · subst c
    rw [if_pos rfl, show (2 * ((0 : Nat) : Int) - 1) = -1 from rfl, Int.neg_one_mul, if_neg (by omega)]
    exact ⟨Int.le_refl 0, rfl⟩
  · have h := ln_le (p := p) (a := 1) (b := 2 * (i : Int) - 1) hp (by omega)
    rw [if_neg c, if_pos (by omega)]
    exact ⟨by omega, rfl⟩
theorem ln_b0 {p w : Int} {R i : Nat} (hp : 1 ≤ p) (hw : w = 2 * p * ln_p R) (hi : i ≤ R) (hR : R ≠ 0) : ln_b p w R i = if (2 * (i : Int) + 1) * p < w then (2 * (i : Int) + 1) * p else w := by
  by_cases c : i < R
  · have h := ln_bw hp hw c
    unfold ln_b at h ⊢
    rw [if_pos c] at h ⊢
    rw [if_pos h]
  · obtain rfl : i = R := by omega
    have e : ln_p i = (i : Int) := if_neg hR
    have h : (2 * (i : Int) + 1) * p = 2 * p * (i : Int) + p := by rw [Int.add_mul, Int.one_mul, Int.mul_right_comm]
    unfold ln_b
    rw [if_neg c, if_neg (by rw [h, hw, e]; omega)]
theorem ln_lb' {p w : Int} {R i : Nat} (hp : 1 ≤ p) (hw : w = 2 * p * ln_p R) (hi : i ≤ R) : ln_l p i < ln_b p w R i := by
  by_cases c : i < R
  · unfold ln_l ln_b
    rw [if_pos c]
    have h : (2 * (i : Int) - 1 + 2) * p ≤ (2 * (i : Int) + 1) * p := ln_le hp (by omega)
    rw [Int.add_mul] at h
    by_cases d : i = 0
    · rw [if_pos d]
      have := ln_le (p := p) (a := 1) (b := 2 * (i : Int) + 1) hp (by omega)
      omega
    · rw [if_neg d]
      omega
  · obtain rfl : i = R := by omega
    unfold ln_l ln_b
    rw [if_neg c, hw]
    by_cases d : i = 0
    · rw [if_pos d]
      have h1 := ln_p1 i
      have h2 := ln_le (p := ln_p i) (a := 1) (b := 2 * p) h1 (by omega)
      omega
    · rw [if_neg d, show ln_p i = (i : Int) from if_neg d]
      have h : (2 * (i : Int) - 1) * p = 2 * p * (i : Int) - p := by rw [Int.sub_mul, Int.one_mul, Int.mul_right_comm]
      omega
theorem S_isOn (m : am_M) (Q : Option Value → am_M → Prop) (f t s i j : Nat) (hf : f < 256) (ht : t < 256) (hs : s < 256) (hb1 : (f / 16 ≤ s / 16 ∧ s / 16 ≤ t / 16) ∨ (t / 16 ≤ s / 16 ∧ s / 16 ≤ f / 16)) (hb2 : (f % 16 ≤ s % 16 ∧ s % 16 ≤ t % 16) ∨ (t % 16 ≤ s % 16 ∧ s % 16 ≤ f % 16))
    (hi : (i : Int) = if ((f / 16 : Nat) : Int) ≤ (t / 16 : Nat) then ((s / 16 : Nat) : Int) - (f / 16 : Nat) else ((f / 16 : Nat) : Int) - (s / 16 : Nat)) (hj : (j : Int) = if ((f % 16 : Nat) : Int) ≤ (t % 16 : Nat) then ((s % 16 : Nat) : Int) - (f % 16 : Nat) else ((f % 16 : Nat) : Int) - (s % 16 : Nat))
    (h : ∀ m1, FrL m m1 → m1.1 109 8 = iI (ln_w (hd_R f t) (hd_C f t)) → m1.1 109 6 = iI (ln_lo (hd_R f t) (hd_C f t) i j) → m1.1 109 7 = iI (ln_hi (hd_R f t) (hd_C f t) i j) → Q (some (.int (bI (decide (ln_lo (hd_R f t) (hd_C f t) i j < ln_hi (hd_R f t) (hd_C f t) i j))))) m1) :
    am_WP YL 169 0 0 0 [some (.ref 109), some (.int (iI (f : Int))), some (.int (iI (t : Int))), some (.int (iI (s : Int))), none, none] [] m Q := by
  have hR : hd_R f t ≤ 15 := by unfold hd_R; omega
  have hC : hd_C f t ≤ 15 := by unfold hd_C; omega
  have hRw : (hd_R f t : Int) = if ((f / 16 : Nat) : Int) ≤ (t / 16 : Nat) then ((t / 16 : Nat) : Int) - (f / 16 : Nat) else ((f / 16 : Nat) : Int) - (t / 16 : Nat) := by unfold hd_R; split <;> omega
  have hCw : (hd_C f t : Int) = if ((f % 16 : Nat) : Int) ≤ (t % 16 : Nat) then ((t % 16 : Nat) : Int) - (f % 16 : Nat) else ((f % 16 : Nat) : Int) - (t % 16 : Nat) := by unfold hd_C; split <;> omega
  have hiR : i ≤ hd_R f t := by split at hi <;> split at hRw <;> omega
  have hjC : j ≤ hd_C f t := by split at hj <;> split at hCw <;> omega
  have pR := ln_pb hR
  have pC := ln_pb hC
  have ww := ln_wb hR hC
  have bR := ln_bb (i := i) hR hC
  have e1 : (if 0 ≤ (t : Int) / 16 - (f : Int) / 16 then (t : Int) / 16 - (f : Int) / 16 else 0 - ((t : Int) / 16 - (f : Int) / 16)) = (hd_R f t : Int) := by unfold hd_R; split <;> omega
  have e2 : (if 0 ≤ (t : Int) - (t : Int) / 16 * 16 - ((f : Int) - (f : Int) / 16 * 16) then (t : Int) - (t : Int) / 16 * 16 - ((f : Int) - (f : Int) / 16 * 16) else 0 - ((t : Int) - (t : Int) / 16 * 16 - ((f : Int) - (f : Int) / 16 * 16))) = (hd_C f t : Int) := by unfold hd_C; split <;> omega
  refine B_X11_isOn_0 m Q _ _ _ ?_
  simp (disch := omega) only [iI_lit, iI_div, iI_sub, iI_le, iI_ite]
  rw [e1]
  refine B_X11_isOn_14 m Q _ _ _ _ ?_
  simp (disch := omega) only [iI_lit, iI_div, iI_mul, iI_sub, iI_le, iI_ite]
  rw [e2]
  refine B_X11_isOn_28 m Q _ _ _ _ _ ?_
  simp (disch := omega) only [iI_lit, iI_lt, iI_ite, iI_mul]
  have e3 : ∀ n : Nat, (if (n : Int) < 1 then 1 else (n : Int)) = ln_p n := by intro n; unfold ln_p; split <;> split <;> omega
  rw [e3, e3]
  have e4 : 2 * ln_p (hd_R f t) * ln_p (hd_C f t) = ln_w (hd_R f t) (hd_C f t) := (ln_w2 _ _).symm
  rw [e4]
  refine B_X11_isOn_47 _ Q _ _ _ ?_
  generalize hm0 : am_pI (am_pI (am_pI m 109 8 (iI (ln_w (hd_R f t) (hd_C f t)))) 109 6 0) 109 7 ((am_pI (am_pI m 109 8 (iI (ln_w (hd_R f t) (hd_C f t)))) 109 6 0).1 109 8) = m0
  have r8 : m0.1 109 8 = iI (ln_w (hd_R f t) (hd_C f t)) := by rw [← hm0, am_pI_at, if_neg (by decide), am_pI_at, if_neg (by decide), am_pI_at, if_pos rfl]
  have r6 : m0.1 109 6 = iI 0 := by rw [← hm0, am_pI_at, if_neg (by decide), am_pI_at, if_pos rfl]; rfl
  have r7 : m0.1 109 7 = iI (ln_w (hd_R f t) (hd_C f t)) := by rw [← hm0, am_pI_at, if_pos rfl, am_pI_at, if_neg (by decide), am_pI_at, if_pos rfl]
  have fr0 : FrL m m0 := by rw [← hm0]; exact ((((FrL.rf m).p (Or.inr (Or.inr rfl)) _).p (Or.inl rfl) _).p (Or.inr (Or.inl rfl)) _)
  rw [r8]
  simp (disch := omega) only [iI_lit, iI_div]
  rw [show (f : Int) / 16 = ((f / 16 : Nat) : Int) by omega, show (t : Int) / 16 = ((t / 16 : Nat) : Int) by omega, show (s : Int) / 16 = ((s / 16 : Nat) : Int) by omega]
  have l0 := ln_l0 (p := ln_p (hd_C f t)) (i := i) pC.1
  refine S_crosses m0 _ (f / 16) (t / 16) (s / 16) i (hd_R f t) (by omega) (by omega) (by omega) hb1 hi hRw (ln_p (hd_C f t)) (ln_w (hd_R f t) (hd_C f t)) 0 (ln_w (hd_R f t) (hd_C f t)) pC (fun z => by rw [show ln_w (hd_R f t) (hd_C f t) = 2 * ln_p (hd_C f t) * ln_p (hd_R f t) from rfl, show ln_p (hd_R f t) = (hd_R f t : Int) from if_neg (by omega)]) ⟨by omega, by omega⟩ ⟨by omega, by omega⟩ ⟨by omega, by omega⟩ r6 r7 ?_
  intro m1 f1 s8 s6 s7
  have lt1 := ln_lb' (p := ln_p (hd_C f t)) (w := ln_w (hd_R f t) (hd_C f t)) pC.1 rfl hiR
  have t6 : (if hd_R f t = 0 then (0 : Int) else if 0 < (2 * (i : Int) - 1) * ln_p (hd_C f t) then (2 * (i : Int) - 1) * ln_p (hd_C f t) else 0) = ln_l (ln_p (hd_C f t)) i := by
    by_cases c : hd_R f t = 0
    · rw [if_pos c]
      obtain rfl : i = 0 := by omega
      rfl
    · rw [if_neg c, ← l0.2]
  have t7 : (if hd_R f t = 0 then ln_w (hd_R f t) (hd_C f t) else if (2 * (i : Int) + 1) * ln_p (hd_C f t) < ln_w (hd_R f t) (hd_C f t) then (2 * (i : Int) + 1) * ln_p (hd_C f t) else ln_w (hd_R f t) (hd_C f t)) = ln_b (ln_p (hd_C f t)) (ln_w (hd_R f t) (hd_C f t)) (hd_R f t) i := by
    by_cases c : hd_R f t = 0
    · rw [if_pos c]
      exact (if_neg (by omega)).symm
    · rw [if_neg c, ← ln_b0 (w := ln_w (hd_R f t) (hd_C f t)) pC.1 rfl hiR c]
  rw [t6] at s6
  rw [t7] at s7
  have tb : (decide (hd_R f t = 0) || decide ((if 0 < (2 * (i : Int) - 1) * ln_p (hd_C f t) then (2 * (i : Int) - 1) * ln_p (hd_C f t) else 0) < (if (2 * (i : Int) + 1) * ln_p (hd_C f t) < ln_w (hd_R f t) (hd_C f t) then (2 * (i : Int) + 1) * ln_p (hd_C f t) else ln_w (hd_R f t) (hd_C f t)))) = true := by
    by_cases c : hd_R f t = 0
    · rw [decide_eq_true c, Bool.true_or]
    · rw [← l0.2, ← ln_b0 (w := ln_w (hd_R f t) (hd_C f t)) pC.1 rfl hiR c, decide_eq_true lt1, Bool.or_true]
  rw [tb]
  refine B_X11_isOn_80 m1 Q _ _ _ _ ⟨fun z => absurd z (by decide), fun _ => ?_⟩
  rw [s8, r8]
  simp (disch := omega) only [iI_lit, iI_div, iI_mul, iI_sub]
  rw [show (f : Int) - (f : Int) / 16 * 16 = ((f % 16 : Nat) : Int) by omega, show (t : Int) - (t : Int) / 16 * 16 = ((t % 16 : Nat) : Int) by omega, show (s : Int) - (s : Int) / 16 * 16 = ((s % 16 : Nat) : Int) by omega]
  have l1 := ln_l0 (p := ln_p (hd_R f t)) (i := j) pR.1
  refine S_crosses m1 _ (f % 16) (t % 16) (s % 16) j (hd_C f t) (by omega) (by omega) (by omega) hb2 hj hCw (ln_p (hd_R f t)) (ln_w (hd_R f t) (hd_C f t)) (ln_l (ln_p (hd_C f t)) i) (ln_b (ln_p (hd_C f t)) (ln_w (hd_R f t) (hd_C f t)) (hd_R f t) i) pR (fun z => by rw [ln_w2, show ln_p (hd_C f t) = (hd_C f t : Int) from if_neg (by omega)]) ⟨by omega, by omega⟩ ⟨by omega, by omega⟩ ⟨by omega, by omega⟩ s6 s7 ?_
  intro m2 f2 u8 u6 u7
  have cb0 := fun c : hd_C f t ≠ 0 => ln_b0 (p := ln_p (hd_R f t)) (w := ln_w (hd_R f t) (hd_C f t)) pR.1 (ln_w2 _ _) hjC c
  have v6 : (if hd_C f t = 0 then ln_l (ln_p (hd_C f t)) i else if ln_l (ln_p (hd_C f t)) i < (2 * (j : Int) - 1) * ln_p (hd_R f t) then (2 * (j : Int) - 1) * ln_p (hd_R f t) else ln_l (ln_p (hd_C f t)) i) = ln_lo (hd_R f t) (hd_C f t) i j := by
    unfold ln_lo
    by_cases c : hd_C f t = 0
    · obtain rfl : j = 0 := by omega
      rw [if_pos c, if_neg (by show ¬ _ < (0 : Int); omega)]
    · rw [if_neg c, l1.2]
      (repeat' split) <;> omega
  have v7 : (if hd_C f t = 0 then ln_b (ln_p (hd_C f t)) (ln_w (hd_R f t) (hd_C f t)) (hd_R f t) i else if (2 * (j : Int) + 1) * ln_p (hd_R f t) < ln_b (ln_p (hd_C f t)) (ln_w (hd_R f t) (hd_C f t)) (hd_R f t) i then (2 * (j : Int) + 1) * ln_p (hd_R f t) else ln_b (ln_p (hd_C f t)) (ln_w (hd_R f t) (hd_C f t)) (hd_R f t) i) = ln_hi (hd_R f t) (hd_C f t) i j := by
    have hwb : ln_b (ln_p (hd_C f t)) (ln_w (hd_R f t) (hd_C f t)) (hd_R f t) i ≤ ln_w (hd_R f t) (hd_C f t) := by
      by_cases c : i < hd_R f t
      · exact Int.le_of_lt (ln_bw pC.1 rfl c)
      · exact Int.le_of_eq (if_neg c)
    unfold ln_hi
    by_cases c : hd_C f t = 0
    · rw [if_pos c, show ln_b (ln_p (hd_R f t)) (ln_w (hd_R f t) (hd_C f t)) (hd_C f t) j = ln_w (hd_R f t) (hd_C f t) from if_neg (by omega), if_neg (by omega)]
    · rw [if_neg c, cb0 c]
      (repeat' split) <;> omega
  rw [v6] at u6
  rw [v7] at u7
  have hm := h m2 (fr0.tr (f1.tr f2)) (by rw [u8, s8, r8]) u6 u7
  refine B_X11_isOn_103 m2 Q _ ?_
  rw [bI_0]
  by_cases c : hd_C f t = 0
  · rw [decide_eq_true c, Bool.true_or]
    rw [if_pos c] at v6 v7
    rw [← v6, ← v7, decide_eq_true lt1] at hm
    exact ⟨fun z => (by cases z), fun _ => hm⟩
  · rw [if_neg c] at v6 v7
    rw [v6, v7, decide_eq_false c, Bool.false_or]
    generalize decide (ln_lo (hd_R f t) (hd_C f t) i j < ln_hi (hd_R f t) (hd_C f t) i j) = b at hm ⊢
    cases b
    · exact ⟨fun _ => hm, fun z => absurd rfl z⟩
    · exact ⟨fun z => (by cases z), fun _ => hm⟩
