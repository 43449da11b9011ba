/-! ===== the reference's sight ===== -/
def mrc (kd rc b : Int) : Int := if kd = 1 then rc else if kd = 2 then rc - (rc * (hzv b).toInt).tdiv 100 else -1
def msok (m : am_M) (kd tw mi dn rt sd rc b : Int) : Bool := inR kd 0 3 && (inR tw 0 ((m.1 109 5).toInt - 1) && (lok mi dn rt sd && ((!(decide (kd = 1) || decide (kd = 2)) || inR rc 1 40) && (!decide (kd = 2) || hzk b))))
theorem mrc_b {kd rc b : Int} (h : (!(decide (kd = 1) || decide (kd = 2)) || inR rc 1 40) = true) (h2 : (!decide (kd = 2) || hzk b) = true) : -1 ≤ mrc kd rc b ∧ mrc kd rc b ≤ 40 := by
  unfold mrc
  by_cases c1 : kd = 1
  · rw [if_pos c1]
    rw [decide_eq_true c1] at h
    have := of_decide_eq_true h
    omega
  · rw [if_neg c1]
    by_cases c2 : kd = 2
    · rw [if_pos c2]
      rw [decide_eq_true c2] at h h2
      rw [Bool.or_true] at h
      have h := of_decide_eq_true h
      have z := hzv_b (b := b) h2
      have e : 0 ≤ rc * (hzv b).toInt ∧ rc * (hzv b).toInt ≤ 40 * 100 := ⟨Int.mul_nonneg (by omega) z.1, Int.mul_le_mul h.2 z.2 z.1 (by decide)⟩
      have e2 : rc * (hzv b).toInt ≤ rc * 100 := Int.mul_le_mul_of_nonneg_left z.2 (by omega)
      generalize rc * (hzv b).toInt = x at e e2
      rw [Int.tdiv_eq_ediv_of_nonneg e.1]
      omega
    · rw [if_neg c2]
      omega
