/-! ===== barred ===== -/
def hb_I (f t : Nat) (hid : Nat → Nat → Bool) (x : Int) (l4 l5 : Int) : Prop :=
  (∀ i j, hd_ok (hd_R f t) (hd_C f t) i j → hid i j = true → hd_q f t i j < x → l5 ≤ ln_lo (hd_R f t) (hd_C f t) i j) ∧
  ((l4 = -1 ∧ l5 = 1000000000) ∨ ∃ i j, hd_ok (hd_R f t) (hd_C f t) i j ∧ hid i j = true ∧ l4 = hd_q f t i j ∧ l5 = ln_lo (hd_R f t) (hd_C f t) i j)
theorem hb_end {f t : Nat} {hid : Nat → Nat → Bool} {l4 l5 : Int} (hf : f < 256) (ht : t < 256) (h : hb_I f t hid 256 l4 l5) : ∃ res, hd_is (hd_R f t) (hd_C f t) hid res ∧ l4 = hd_v f t res := by
  have hR : hd_R f t ≤ 15 := by unfold hd_R; omega
  have hC : hd_C f t ≤ 15 := by unfold hd_C; omega
  rcases h.2 with z | ⟨i, j, z1, z2, z3, z4⟩
  · refine ⟨none, fun i j hk => ?_, z.1⟩
    cases c : hid i j
    · rfl
    · have q := hd_qb hf ht hk.1 hk.2.1
      have := h.1 i j hk c q.2.1
      have b := ln_lb hk.2.2.1 hR hC
      omega
  · refine ⟨some (i, j), ⟨z1, z2, fun i' j' hk c => ?_⟩, z3⟩
    have q := hd_qb hf ht hk.1 hk.2.1
    have := h.1 i' j' hk c q.2.1
    omega
theorem hb_skip {f t : Nat} {hid : Nat → Nat → Bool} {x l4 l5 : Int} (h : hb_I f t hid x l4 l5) (hs : ∀ i j, hd_ok (hd_R f t) (hd_C f t) i j → hid i j = true → hd_q f t i j = x → l5 ≤ ln_lo (hd_R f t) (hd_C f t) i j) : hb_I f t hid (x + 1) l4 l5 := by
  refine ⟨fun i j hk c hx => ?_, h.2⟩
  by_cases e : hd_q f t i j = x
  · exact hs i j hk c e
  · exact h.1 i j hk c (by omega)
theorem hb_take {f t i j : Nat} {hid : Nat → Nat → Bool} {x l4 l5 : Int} (h : hb_I f t hid x l4 l5) (hk : hd_ok (hd_R f t) (hd_C f t) i j) (hh : hid i j = true) (hx : hd_q f t i j = x) (hl : ln_lo (hd_R f t) (hd_C f t) i j < l5) (hone : ∀ i' j', hd_ok (hd_R f t) (hd_C f t) i' j' → hd_q f t i' j' = x → i' = i ∧ j' = j) : hb_I f t hid (x + 1) x (ln_lo (hd_R f t) (hd_C f t) i j) := by
  refine ⟨fun i' j' hk' c hx' => ?_, Or.inr ⟨i, j, hk, hh, hx.symm, rfl⟩⟩
  by_cases e : hd_q f t i' j' = x
  · have := hone i' j' hk' e
    rw [this.1, this.2]
    exact Int.le_refl _
  · have := h.1 i' j' hk' c (by omega)
    omega
theorem hd_qi {f t i j i' j' : Nat} (hf : f < 256) (ht : t < 256) (hi : i ≤ hd_R f t) (hj : j ≤ hd_C f t) (hi' : i' ≤ hd_R f t) (hj' : j' ≤ hd_C f t) (h : hd_q f t i' j' = hd_q f t i j) : i' = i ∧ j' = j := by
  unfold hd_q hd_R hd_C at *
  split at h <;> split at h <;> omega
/-- the least of the two ends -/
theorem hb_low {rise lo hi e : Int} (h : lo < hi) : (if e + rise * hi < e + rise * lo then e + rise * hi else e + rise * lo) = e + rise * (if rise < 0 then hi else lo) := by
  by_cases c : rise < 0
  · rw [if_pos c]
    have : rise * hi < rise * lo := Int.mul_lt_mul_of_neg_left h c
    rw [if_pos (by omega)]
  · rw [if_neg c]
    have : rise * lo ≤ rise * hi := Int.mul_le_mul_of_nonneg_left (Int.le_of_lt h) (by omega)
    rw [if_neg (by omega)]
