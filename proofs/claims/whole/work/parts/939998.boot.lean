/-! ===== from the start to the loop ===== -/
theorem boot {L : Nat} {xs : Nat → Int32} (lp : ∀ m, Inv m → SC L xs m → am_WP YL 231 5000 20000 18 [some (.ref 2), some (.ref 3), some (.ref 109), some (.int 0)] [] m (fun r _ => r = some (.int 1))) : am_WP am_Y0 231 600000 7302250 0 [some (.ref 2), none, none, none] [] (am_m0 L xs) (fun r _ => r = some (.int 1)) := by
  obtain ⟨qA, hA, fA, eA⟩ := cx_get cx_tA
  obtain ⟨qB, hB, fB, eB⟩ := cx_get cx_tB
  have hA : cx 6000 231 12 0 [some (.ref 2), none, none, none] [] (am_m0 0 (fun _ => 0)) = some qA := hA
  have hB : cx 1000 160 197 0 [some (.ref 109)] [] (cx_m cx_A) = some qB := hB
  unfold cx_fA at fA
  unfold cx_fB at fB
  simp only [Bool.and_eq_true, decide_eq_true_eq] at fA fB
  obtain ⟨a1, a2, a3, a4, a5, a6⟩ := fA
  obtain ⟨b1, b2, b3, b4, b5, b6⟩ := fB
  have s1 := Nat.le_of_ble_eq_true a6
  have s2 := Nat.le_of_ble_eq_true b6
  have r0 : cx_R (am_m0 0 (fun _ => 0)) (am_m0 L xs) := ⟨rfl, fun a ha => by
    obtain ⟨b, rfl⟩ : ∃ b, a = b + 3 := ⟨a - 3, by omega⟩
    exact ⟨rfl, rfl, rfl, rfl⟩⟩
  have A := cx_ok 6000 231 12 0 _ _ _ qA hA (am_m0 L xs) r0 (fun r _ => r = some (.int 1)) 599893 (7302250 - qA.2.2.2.2.2) (fun m1 r1 l1 => ?_)
  · rw [a5, show qA.2.2.2.2.2 + (7302250 - qA.2.2.2.2.2) = 7302250 by omega] at A
    exact A
  · rw [a1, a2, a3]
    refine am_so (And.intro ⟨_, rfl⟩ ⟨23, qB.2.2.2.2.2, 599870, 7302250 - qA.2.2.2.2.2 - qB.2.2.2.2.2, rfl, by omega, rfl, ?_⟩)
    have B := cx_ok 1000 160 197 0 [some (.ref 109)] [] (cx_m cx_A) qB hB m1 (by rw [eA]; exact r1) (fun r m2 => am_WP am_Y0 231 599870 (7302250 - qA.2.2.2.2.2 - qB.2.2.2.2.2) 15 [some (.ref 2), some (.ref 3), none, none] (am_pu r [.ref 109]) m2 (fun r _ => r = some (.int 1))) 0 0 (fun m2 r2 l2 => ?_)
    · rw [b5, Nat.add_zero, Nat.add_zero] at B
      exact B
    · rw [b1, b2, b3]
      have r2' : cx_R (cx_m cx_B) m2 := by rw [eB]; exact r2
      have l : cx_L (am_m0 L xs) m2 := l1.tr l2
      refine am_chg (lay_R r2') (lay_K r2' (l 0 (by decide)).2 (l 1 (by decide)).2) ?_
      refine am_so (And.intro rfl (And.intro rfl ⟨0, 0, 0, 0, rfl, rfl, rfl, S_away m2 _ (fun m3 f1 g5 g13 g115 g132 g126 => am_so (And.intro rfl ?_))⟩))
      show am_WP am_Y0 231 599870 (7302250 - qA.2.2.2.2.2 - qB.2.2.2.2.2) 15 [some (.ref 2), some (.ref 3), none, none] [.ref 109] (am_ab m3) (fun r _ => r = some (.int 1))
      refine am_so (am_so ⟨0, rfl, am_so ?_⟩)
      obtain ⟨i1, i2⟩ := boot_inv r2' l f1 g5 g13 g115 g132 g126
      refine am_chg (fun a j => am_ab_R m3 a j) (fun a => am_ab_K m3 a) ?_
      exact am_bd (by omega) (by omega) (lp (am_ab m3) i1 i2)
