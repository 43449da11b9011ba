/-! ===== the start ===== -/
theorem cx_get {o : Option cx_T} {f : cx_T → Bool} (h : cx_chk o f = true) : ∃ q, o = some q ∧ f q = true ∧ cx_m o = q.2.2.1 := by
  cases o with
  | none => cases h
  | some q => exact ⟨q, rfl, h, rfl⟩
theorem all_r {n : Nat} {f : Nat → Bool} (h : (List.range n).all f = true) {a : Nat} (ha : a < n) : f a = true := List.all_eq_true.mp h a (List.mem_range.mpr ha)
theorem al_e {c : am_M} {a n : Nat} {v : Int32} (h : cx_al c a n v = true) : ∀ j, j < n → c.1 a j = v := fun j hj => of_decide_eq_true (all_r h hj)
theorem YL_K_big {a : Nat} (h : 133 ≤ a) : YL.2 a = none := by
  show YL_K a = none
  unfold YL_K
  rw [show Nat.ble 133 a = true from Nat.ble_eq_true_of_le h]
  rfl
theorem YL_R_far {a : Nat} (h : 133 ≤ a) (j : Nat) : YL.1 a j = none := by
  show YL_R a j = none
  unfold YL_R
  rw [show Nat.ble 133 a = true from Nat.ble_eq_true_of_le h]
  rfl
theorem lay_R {m : am_M} (hR : cx_R (cx_m cx_B) m) : ∀ a j, am_gR YL m a j = m.2.2.1 a j := by
  intro a j
  unfold am_gR
  cases z : YL.1 a j with
  | none => rfl
  | some b =>
    have a1 : a < 133 := by
      rcases Nat.lt_or_ge a 133 with w | w
      · exact w
      · rw [YL_R_far w] at z
        cases z
    have j1 : j < 29 := by
      rcases Nat.lt_or_ge j 29 with w | w
      · exact w
      · rw [show YL.1 a j = none from YL_R_big w a] at z
        cases z
    have t := (Bool.and_eq_true_iff.mp (all_r cx_tL a1)).2
    have t2 := all_r t j1
    rw [z] at t2
    obtain ⟨t3, t4⟩ := Bool.and_eq_true_iff.mp t2
    have t4 := of_decide_eq_true t4
    rw [← (hR.2 a (Nat.le_of_ble_eq_true t3)).2.2.1] at t4
    exact t4.symm
theorem lay_K {m : am_M} (hR : cx_R (cx_m cx_B) m) (h0 : m.2.2.2.1 0 = (20, 8)) (h1 : m.2.2.2.1 1 = (20, 8)) : ∀ a, am_k YL m a = m.2.2.2.1 a := by
  have tL := cx_tL
  generalize cx_m cx_B = c at hR tL
  intro a
  unfold am_k
  cases z : YL.2 a with
  | none => rfl
  | some k =>
    have a1 : a < 133 := by
      rcases Nat.lt_or_ge a 133 with w | w
      · exact w
      · rw [YL_K_big w] at z
        cases z
    rcases Nat.lt_or_ge a 3 with w | w
    · have : a = 0 ∨ a = 1 ∨ a = 2 := by omega
      rcases this with rfl | rfl | rfl
      · rw [show YL.2 0 = some (20, 8) from rfl] at z
        cases z
        exact h0.symm
      · rw [show YL.2 1 = some (20, 8) from rfl] at z
        cases z
        exact h1.symm
      · rw [show YL.2 2 = none from rfl] at z
        cases z
    · have t := (Bool.and_eq_true_iff.mp (all_r tL a1)).1
      rw [Nat.ble_eq_true_of_le w, z] at t
      have t : decide (c.2.2.2.1 a = k) = true := t
      have t := of_decide_eq_true t
      rw [← (hR.2 a w).2.2.2] at t
      exact t.symm
theorem boot_inv {L : Nat} {xs : Nat → Int32} {m2 m3 : am_M} (hR : cx_R (cx_m cx_B) m2) (hl : cx_L (am_m0 L xs) m2) (f : Fm [115, 126, 132] [5, 13] m2 m3) (a1 : m3.1 109 5 = 0) (a2 : m3.1 109 13 = 0) (a3 : ∀ k, k < 350 → m3.1 115 k = if k < 60 then 6 else if 180 ≤ k ∧ k < 240 then -1 else 0) (a4 : ∀ i, i < 60 → m3.1 132 i = -1) (a5 : ∀ f, f < 20 → m3.1 126 f = -1) : Inv (am_ab m3) ∧ SC L xs (am_ab m3) := by
  obtain ⟨qB, _, fB, eB⟩ := cx_get cx_tB
  have nB : am_n (cx_m cx_B) = 130 := by
    rw [eB]
    exact of_decide_eq_true (Bool.and_eq_true_iff.mp (Bool.and_eq_true_iff.mp (Bool.and_eq_true_iff.mp (Bool.and_eq_true_iff.mp fB).2).2).2).1
  have V := cx_tV
  unfold cx_val at V
  simp only [Bool.and_eq_true, decide_eq_true_eq] at V
  obtain ⟨v5, v6, v8, v97, v98, v99, v34, v35, v36, v37, v38, v87, v90, v91, v93, v974, v975, v14, v110, v111, v112⟩ := V
  have I : ∀ a, 3 ≤ a → a ∉ [115, 126, 132] → a ≠ 109 → m3.1 a = (cx_m cx_B).1 a := fun a h1 h2 h3 => by rw [f.1 a h2 h3, (hR.2 a h1).1]
  have J : ∀ a, 3 ≤ a → a ∉ [115, 126, 132] → m3.2.1 a = (cx_m cx_B).2.1 a := fun a h1 h2 => by rw [f.2.1 a h2, (hR.2 a h1).2.1]
  have w5 : ∀ q, q < 256 → m3.1 5 q = 0 := by rw [I 5 (by decide) (by decide) (by decide)]; exact al_e v5
  have w6 : ∀ q, q < 256 → m3.1 6 q = 0 := by rw [I 6 (by decide) (by decide) (by decide)]; exact al_e v6
  have w111 : ∀ q, q < 256 → m3.1 111 q = 0 := by rw [I 111 (by decide) (by decide) (by decide)]; exact al_e v111
  have w112 : ∀ q, q < 256 → m3.1 112 q = 0 := by rw [I 112 (by decide) (by decide) (by decide)]; exact al_e v112
  have w110 : ∀ q, q < 16 → m3.1 110 q = 0 := by rw [I 110 (by decide) (by decide) (by decide)]; exact al_e v110
  have w8 : ∀ q, q < 256 → wb (m3.2.1 8) q = false := fun q hq => by
    rw [J 8 (by decide) (by decide), wb4 (g := fun _ => 0) (fun w hw => of_decide_eq_true (all_r v8 hw)) hq]
    exact wb_zero q
  have et : ∀ q, mt (am_ab m3) q = false := fun q => by
    unfold mt mth
    refine decide_eq_false (fun z => ?_)
    have z4 := z.2.2.2
    rw [show (am_ab m3).1 110 (((q / 16 : Nat) : Int)).toNat = 0 from w110 _ (by omega)] at z4
    have : (0 : Int32).toInt = 0 := rfl
    omega
  have t0 : (0 : Int32).toInt = 0 := rfl
  have n35 : ∀ i, i < 60 → am_gR YL (am_ab m3) 35 i = none := fun i hi => by
    rw [am_ab_R, f.R, lay_R hR, (hR.2 35 (by decide)).2.2.1]
    exact of_decide_eq_true (all_r v35 hi)
  have f9 : m3.1 9 = (cx_m cx_B).1 9 := I 9 (by decide) (by decide) (by decide)
  have nn : am_n (am_ab m3) = 130 := by
    show am_n m3 = 130
    rw [show am_n m3 = am_n m2 by unfold am_n; rw [f.2.2.2], hR.1, nB]
  have lk : ∀ a, a < 3 → m3.1 a = (am_m0 L xs).1 a := fun a ha => by
    have h1 : a ∉ [115, 126, 132] := fun z => by simp only [List.mem_cons, List.not_mem_nil, or_false] at z; omega
    rw [f.1 a h1 (by omega), (hl a ha).1]
  refine ⟨⟨0, 0, 0, 0, 0, 0, ⟨⟨fun q hq => ?_, fun q hq => ?_, fun q hq y => ?_⟩, ⟨fun q hq => ?_, fun q hq => ?_, fun q hq y => ?_, fun j hj => ?_⟩, fun q hq => ?_, fun q hq => ?_, fun q hq => ?_⟩, fun j hj => ?_, ⟨⟨⟨by omega, ?_, fun t ht => absurd ht (Nat.not_lt_zero t)⟩, fun t ht => absurd ht (Nat.not_lt_zero t), fun y => absurd ?_ y, fun y => absurd ?_ y⟩, ⟨by omega, a1, fun t ht => absurd ht (Nat.not_lt_zero t)⟩, fun t ht => absurd ht (Nat.not_lt_zero t)⟩, ⟨⟨fun i hi => ?_, fun i hi => ?_, fun i hi => ?_, ⟨by omega, ?_⟩, fun f hf => absurd hf (Nat.not_lt_zero f), fun f hf => absurd hf (Nat.not_lt_zero f), ⟨by omega, ?_⟩, fun f hf => absurd hf (Nat.not_lt_zero f), fun f hf => absurd hf (Nat.not_lt_zero f)⟩, ?_, ?_, ?_, fun f hf => absurd hf (Nat.not_lt_zero f), fun f hf => absurd hf (Nat.not_lt_zero f)⟩, ⟨fun q hq => ?_, fun g hg y => ?_⟩, fun g hg => ?_, fun i hi => ?_, ?_, ⟨by omega, by omega, by omega, ?_, ?_, a2, ?_, fun j hj => absurd hj (Nat.not_lt_zero j)⟩⟩, ?_⟩
  · rw [show (am_ab m3).1 5 q = 0 from w5 q hq, t0]; omega
  · rw [show (am_ab m3).1 6 q = 0 from w6 q hq, t0]; omega
  · rw [show wb ((am_ab m3).2.1 8) q = false from w8 q hq] at y
    cases y
  · rw [show (am_ab m3).1 111 q = 0 from w111 q hq, t0]; omega
  · rw [show (am_ab m3).1 112 q = 0 from w112 q hq, t0]; omega
  · rw [et q] at y
    cases y
  · rw [show (am_ab m3).1 110 j = 0 from w110 j hj, t0]; omega
  · rw [et q]
    exact w8 q hq
  · rw [show (am_ab m3).1 5 q = 0 from w5 q hq]
    exact (w111 q hq).symm
  · rw [show (am_ab m3).1 6 q = 0 from w6 q hq]
    exact (w112 q hq).symm
  · show m3.1 0 j = _ ∧ m3.1 1 j = _
    rw [lk 0 (by decide), lk 1 (by decide)]
    show am_LD j = iI (ldn j) ∧ am_LR j = iI (lrt j)
    revert j
    decide
  · show m3.1 9 9 = _
    rw [f9]
    exact v99
  · show m3.1 9 7 = 0
    rw [f9]
    exact v97
  · show m3.1 9 8 = -2
    rw [f9]
    exact v98
  · show PlOK (am_ab m3) (am_gR YL (am_ab m3) 35 i) (m3.1 115) (m3.2.1 116) i
    rw [n35 i hi]
    show m3.1 115 i = 6
    rw [a3 i (by omega), if_pos hi]
  · show m3.1 115 (180 + i) = m3.1 36 i
    rw [a3 _ (by omega), if_neg (by omega), if_pos (by omega), I 36 (by decide) (by decide) (by decide), al_e v36 i hi]
  · refine Or.inl ?_
    show m3.1 36 i = -1
    rw [I 36 (by decide) (by decide) (by decide), al_e v36 i hi]
  · show m3.1 115 348 = _
    rw [a3 _ (by omega), if_neg (by omega), if_neg (by omega)]
    rfl
  · show m3.1 115 349 = _
    rw [a3 _ (by omega), if_neg (by omega), if_neg (by omega)]
    rfl
  · show m3.1 38 8 = _
    rw [I 38 (by decide) (by decide) (by decide)]
    exact v38
  · show m3.1 91 6 = _
    rw [I 91 (by decide) (by decide) (by decide)]
    exact v91
  · show m3.1 34 3 = _
    rw [I 34 (by decide) (by decide) (by decide), v34, fb_ct_zero.mpr (fun i hi => by rw [n35 i hi]; rfl)]
    rfl
  · show m3.1 90 q = 0
    rw [I 90 (by decide) (by decide) (by decide)]
    exact al_e v90 q hq
  · have y : m3.1 87 6 = _ := y
    rw [I 87 (by decide) (by decide) (by decide), v87] at y
    have := (iI_eq (a := -1) (b := (g : Int)) (by omega) (by omega) (by omega) (by omega)).mp (show iI (-1) = iI (g : Int) from y)
    omega
  · show m3.1 93 g = m3.1 126 g
    rw [I 93 (by decide) (by decide) (by decide), al_e v93 g hg, a5 g hg]
  · show m3.1 37 i = m3.1 132 i
    rw [I 37 (by decide) (by decide) (by decide), al_e v37 i hi, a4 i hi]
  · rw [nn]
    exact Nat.le_refl _
  · show m3.1 97 4 = _
    rw [I 97 (by decide) (by decide) (by decide)]
    exact v974
  · show m3.1 97 5 = _
    rw [I 97 (by decide) (by decide) (by decide)]
    exact v975
  · show m3.1 109 14 = _
    rw [f.2.2.1 14 (by decide), (hR.2 109 (by decide)).1]
    exact v14
  · refine ⟨L, ?_, iI_ofNat L, Nat.le_refl _, fun j hj => ?_⟩
    · rw [am_ab_K]
      show m3.2.2.2.1 2 = (20, L)
      rw [f.2.2.2, (hl 2 (by decide)).2]
      rfl
    · show m3.1 2 j = xs j
      rw [lk 2 (by decide)]
      rfl
