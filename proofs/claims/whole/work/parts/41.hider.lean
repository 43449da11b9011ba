/-! ===== the first hider of a line ===== -/
def hd_ok (R C i j : Nat) : Prop := i ≤ R ∧ j ≤ C ∧ ln_lo R C i j < ln_hi R C i j ∧ (0 < i ∨ 0 < j) ∧ (i < R ∨ j < C)
def hd_is (R C : Nat) (hid : Nat → Nat → Bool) : Option (Nat × Nat) → Prop
  | none => ∀ i j, hd_ok R C i j → hid i j = false
  | some (i, j) => hd_ok R C i j ∧ hid i j = true ∧ ∀ i' j', hd_ok R C i' j' → hid i' j' = true → ln_lo R C i j ≤ ln_lo R C i' j'
theorem hd_uniq {R C : Nat} {hid : Nat → Nat → Bool} : ∀ {a b : Option (Nat × Nat)}, hd_is R C hid a → hd_is R C hid b → a = b
  | none, none, _, _ => rfl
  | none, some (i, j), h1, h2 => by
    have := h1 i j h2.1
    rw [h2.2.1] at this
    cases this
  | some (i, j), none, h1, h2 => by
    have := h2 i j h1.1
    rw [h1.2.1] at this
    cases this
  | some (i, j), some (i', j'), h1, h2 => by
    have a1 := h1.2.2 i' j' h2.1 h2.2.1
    have a2 := h2.2.2 i j h1.1 h1.2.1
    have e : ln_lo R C i j = ln_lo R C i' j' := by omega
    have := ln_one (x := ln_lo R C i j) h1.1.1 h1.1.2.1 h2.1.1 h2.1.2.1 (Int.le_refl _) h1.1.2.2.1 a2 (by rw [e]; exact h2.1.2.2.1)
    rw [this.1, this.2]
/-- the walk's promise: all before the point has been looked at -/
def hd_done (R C : Nat) (hid : Nat → Nat → Bool) (x : Int) : Prop := ∀ i j, hd_ok R C i j → ln_lo R C i j < x → hid i j = false
theorem ln_hw {R C i j : Nat} : ln_hi R C i j ≤ ln_w R C := by
  have f : ∀ p w R i, 1 ≤ p → w = 2 * p * ln_p R → ln_b p w R i ≤ w := by
    intro p w R i hp hw
    by_cases c : i < R
    · exact Int.le_of_lt (ln_bw hp hw c)
    · unfold ln_b
      rw [if_neg c]
      exact Int.le_refl w
  have a := f (ln_p C) (ln_w R C) R i (ln_p1 C) rfl
  have b := f (ln_p R) (ln_w R C) C j (ln_p1 R) (ln_w2 R C)
  unfold ln_hi
  split <;> omega
theorem ln_end (R C : Nat) : ln_hi R C R C = ln_w R C := by
  unfold ln_hi ln_b
  rw [if_neg (Nat.lt_irrefl C), if_neg (Nat.lt_irrefl R), if_neg (Int.lt_irrefl _)]
theorem hd_step {R C i j : Nat} {hid : Nat → Nat → Bool} (h1 : i ≤ R) (h2 : j ≤ C) (h4 : ln_lo R C i j < ln_hi R C i j) (hd : hd_done R C hid (ln_lo R C i j)) (hn : hd_ok R C i j → hid i j = false) : hd_done R C hid (ln_hi R C i j) := by
  intro i' j' hk hx
  by_cases c : ln_lo R C i' j' < ln_lo R C i j
  · exact hd i' j' hk c
  · have := ln_one (x := ln_lo R C i' j') h1 h2 hk.1 hk.2.1 (by omega) hx (Int.le_refl _) hk.2.2.1
    rw [← this.1, ← this.2]
    exact hn (by rw [this.1, this.2]; exact hk)
theorem hd_end {R C : Nat} {hid : Nat → Nat → Bool} (h4 : ln_lo R C R C < ln_hi R C R C) (hd : hd_done R C hid (ln_lo R C R C)) : hd_is R C hid none := by
  intro i j hk
  have := hd_step (Nat.le_refl R) (Nat.le_refl C) h4 hd (fun z => by have := z.2.2.2.2; omega)
  rw [ln_end] at this
  have hw := ln_hw (R := R) (C := C) (i := i) (j := j)
  exact this i j hk (by have := hk.2.2.1; omega)
theorem hd_found {R C i j : Nat} {hid : Nat → Nat → Bool} (hk : hd_ok R C i j) (hh : hid i j = true) (hd : hd_done R C hid (ln_lo R C i j)) : hd_is R C hid (some (i, j)) := by
  refine ⟨hk, hh, fun i' j' hk' hh' => ?_⟩
  by_cases c : ln_lo R C i' j' < ln_lo R C i j
  · have := hd i' j' hk' c
    rw [hh'] at this
    cases this
  · omega
theorem hd_zero {R C : Nat} {hid : Nat → Nat → Bool} : hd_done R C hid 0 := by
  intro i j _ hx
  have f : ∀ p i, 1 ≤ p → 0 ≤ ln_l p i := by
    intro p i hp
    unfold ln_l
    by_cases c : i = 0
    · rw [if_pos c]; decide
    · rw [if_neg c]
      have := ln_le (p := p) (a := 0) (b := 2 * (i : Int) - 1) hp (by omega)
      omega
  have a := f (ln_p C) i (ln_p1 C)
  have b := f (ln_p R) j (ln_p1 R)
  unfold ln_lo at hx
  split at hx <;> omega
