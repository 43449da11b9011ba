/-! ===== a line of squares: what both walk ===== -/
def ln_p (n : Nat) : Int := if n = 0 then 1 else (n : Int)
def ln_w (R C : Nat) : Int := 2 * ln_p C * ln_p R
def ln_b (p w : Int) (R i : Nat) : Int := if i < R then (2 * (i : Int) + 1) * p else w
def ln_l (p : Int) (i : Nat) : Int := if i = 0 then 0 else (2 * (i : Int) - 1) * p
def ln_lo (R C i j : Nat) : Int := if ln_l (ln_p C) i < ln_l (ln_p R) j then ln_l (ln_p R) j else ln_l (ln_p C) i
def ln_hi (R C i j : Nat) : Int := if ln_b (ln_p R) (ln_w R C) C j < ln_b (ln_p C) (ln_w R C) R i then ln_b (ln_p R) (ln_w R C) C j else ln_b (ln_p C) (ln_w R C) R i
theorem ln_p1 (n : Nat) : 1 ≤ ln_p n := by
  unfold ln_p
  by_cases h : n = 0
  · rw [if_pos h]; decide
  · rw [if_neg h]; omega
theorem ln_le {p : Int} (hp : 1 ≤ p) {a b : Int} (h : a ≤ b) : a * p ≤ b * p := Int.mul_le_mul_of_nonneg_right h (by omega)
/-- borders rise, and lie below the whole -/
theorem ln_bl {p w : Int} {R i j : Nat} (hp : 1 ≤ p) (hi : i < R) (hij : i < j) : ln_b p w R i ≤ ln_l p j := by
  unfold ln_b ln_l
  rw [if_pos hi, if_neg (by omega)]
  exact ln_le hp (by omega)
theorem ln_bw {p : Int} {R i : Nat} {w : Int} (hp : 1 ≤ p) (hw : w = 2 * p * ln_p R) (hi : i < R) : ln_b p w R i < w := by
  unfold ln_b
  rw [if_pos hi, hw]
  have e : ln_p R = (R : Int) := if_neg (by omega)
  have h1 : (2 * (i : Int) + 1) * p ≤ (2 * (R : Int) - 1) * p := ln_le hp (by omega)
  have h2 : (2 * (R : Int) - 1) * p = 2 * p * (R : Int) - p := by rw [Int.sub_mul, Int.one_mul, Int.mul_right_comm]
  rw [e]
  omega
theorem ln_bs {p : Int} {R i : Nat} {w : Int} (hp : 1 ≤ p) (hw : w = 2 * p * ln_p R) (hi : i < R) : ln_b p w R i < ln_b p w R (i + 1) := by
  by_cases h : i + 1 < R
  · unfold ln_b
    rw [if_pos hi, if_pos h]
    have h1 : (2 * (i : Int) + 1 + 1) * p ≤ (2 * ((i + 1 : Nat) : Int) + 1) * p := ln_le hp (by omega)
    rw [Int.add_mul _ 1, Int.one_mul] at h1
    omega
  · have e : ln_b p w R (i + 1) = w := if_neg h
    rw [e]
    exact ln_bw hp hw hi
theorem ln_ls {p w : Int} {R i : Nat} (hi : i < R) : ln_l p (i + 1) = ln_b p w R i := by
  unfold ln_b ln_l
  rw [if_pos hi, if_neg (by omega)]
  congr 1
  omega
theorem ln_w2 (R C : Nat) : ln_w R C = 2 * ln_p R * ln_p C := Int.mul_right_comm 2 (ln_p C) (ln_p R)
/-- two squares on the line at one point of it are one -/
theorem ln_one {R C i j i' j' : Nat} {x : Int} (h1 : i ≤ R) (h2 : j ≤ C) (h3 : i' ≤ R) (h4 : j' ≤ C) (a1 : ln_lo R C i j ≤ x) (a2 : x < ln_hi R C i j) (a3 : ln_lo R C i' j' ≤ x) (a4 : x < ln_hi R C i' j') : i = i' ∧ j = j' := by
  have pC := ln_p1 C
  have pR := ln_p1 R
  have f1 : ∀ i j, ln_l (ln_p C) i ≤ ln_lo R C i j ∧ ln_l (ln_p R) j ≤ ln_lo R C i j := by
    intro i j
    unfold ln_lo
    by_cases c : ln_l (ln_p C) i < ln_l (ln_p R) j
    · rw [if_pos c]; omega
    · rw [if_neg c]; omega
  have f2 : ∀ i j, ln_hi R C i j ≤ ln_b (ln_p C) (ln_w R C) R i ∧ ln_hi R C i j ≤ ln_b (ln_p R) (ln_w R C) C j := by
    intro i j
    unfold ln_hi
    by_cases c : ln_b (ln_p R) (ln_w R C) C j < ln_b (ln_p C) (ln_w R C) R i
    · rw [if_pos c]; omega
    · rw [if_neg c]; omega
  have g1 := f1 i j
  have g2 := f1 i' j'
  have g3 := f2 i j
  have g4 := f2 i' j'
  constructor
  · rcases Nat.lt_trichotomy i i' with c | c | c
    · have := ln_bl (w := ln_w R C) (R := R) pC (by omega) c
      omega
    · exact c
    · have := ln_bl (w := ln_w R C) (R := R) pC (by omega) c
      omega
  · rcases Nat.lt_trichotomy j j' with c | c | c
    · have := ln_bl (w := ln_w R C) (R := C) pR (by omega) c
      omega
    · exact c
    · have := ln_bl (w := ln_w R C) (R := C) pR (by omega) c
      omega
/-- one step on -/
def ln_i (R C i j : Nat) : Nat := if ln_b (ln_p C) (ln_w R C) R i = ln_hi R C i j ∧ i < R then i + 1 else i
def ln_j (R C i j : Nat) : Nat := if ln_b (ln_p R) (ln_w R C) C j = ln_hi R C i j ∧ j < C then j + 1 else j
theorem ln_step {R C i j : Nat} (h1 : i ≤ R) (h2 : j ≤ C) (h3 : i < R ∨ j < C) (h4 : ln_lo R C i j < ln_hi R C i j) :
    ln_i R C i j ≤ R ∧ ln_j R C i j ≤ C ∧ i + j < ln_i R C i j + ln_j R C i j ∧ ln_lo R C (ln_i R C i j) (ln_j R C i j) = ln_hi R C i j ∧ ln_lo R C (ln_i R C i j) (ln_j R C i j) < ln_hi R C (ln_i R C i j) (ln_j R C i j) := by
  have pC := ln_p1 C
  have pR := ln_p1 R
  have wR : ln_w R C = 2 * ln_p C * ln_p R := rfl
  have wC := ln_w2 R C
  have r1 : i < R → ln_b (ln_p C) (ln_w R C) R i < ln_w R C := ln_bw pC wR
  have r2 : i < R → ln_b (ln_p C) (ln_w R C) R i < ln_b (ln_p C) (ln_w R C) R (i + 1) := ln_bs pC wR
  have r3 : i < R → ln_l (ln_p C) (i + 1) = ln_b (ln_p C) (ln_w R C) R i := ln_ls
  have r4 : ¬ i < R → ln_b (ln_p C) (ln_w R C) R i = ln_w R C := fun z => if_neg z
  have c1 : j < C → ln_b (ln_p R) (ln_w R C) C j < ln_w R C := ln_bw pR wC
  have c2 : j < C → ln_b (ln_p R) (ln_w R C) C j < ln_b (ln_p R) (ln_w R C) C (j + 1) := ln_bs pR wC
  have c3 : j < C → ln_l (ln_p R) (j + 1) = ln_b (ln_p R) (ln_w R C) C j := ln_ls
  have c4 : ¬ j < C → ln_b (ln_p R) (ln_w R C) C j = ln_w R C := fun z => if_neg z
  have e1 : ∀ a b, ln_lo R C a b = if ln_l (ln_p C) a < ln_l (ln_p R) b then ln_l (ln_p R) b else ln_l (ln_p C) a := fun _ _ => rfl
  have e2 : ∀ a b, ln_hi R C a b = if ln_b (ln_p R) (ln_w R C) C b < ln_b (ln_p C) (ln_w R C) R a then ln_b (ln_p R) (ln_w R C) C b else ln_b (ln_p C) (ln_w R C) R a := fun _ _ => rfl
  unfold ln_i ln_j
  have e3 := e1 i j
  have e4 := e2 i j
  generalize hlo : ln_lo R C i j = lo at *
  generalize hhi : ln_hi R C i j = hi at *
  generalize hrb : ln_b (ln_p C) (ln_w R C) R i = rb at *
  generalize hcb : ln_b (ln_p R) (ln_w R C) C j = cb at *
  by_cases k1 : rb = hi ∧ i < R
  · by_cases k2 : cb = hi ∧ j < C
    · rw [if_pos k1, if_pos k2, e1, e2, r3 k1.2, c3 k2.2]
      have := r2 k1.2
      have := c2 k2.2
      refine ⟨by omega, by omega, by omega, ?_, ?_⟩ <;> split <;> omega
    · rw [if_pos k1, if_neg k2, e1, e2, r3 k1.2]
      have := r2 k1.2
      refine ⟨by omega, by omega, by omega, ?_, ?_⟩ <;> split at e3 <;> split at e4 <;> split <;> omega
  · by_cases k2 : cb = hi ∧ j < C
    · rw [if_neg k1, if_pos k2, e1, e2, c3 k2.2]
      have := c2 k2.2
      refine ⟨by omega, by omega, by omega, ?_, ?_⟩ <;> split at e3 <;> split at e4 <;> split <;> omega
    · exfalso
      split at e4 <;> omega
