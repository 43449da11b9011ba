/-! ===== least ways in a graph of 256 squares ===== -/
def gr (ed : Nat → Nat → Bool) (w : Nat → Nat → Nat) : Prop := ∀ a b, ed a b = true → a < 256 ∧ b < 256 ∧ 1 ≤ w b a ∧ w b a ≤ 460
def tab (ed : Nat → Nat → Bool) (w : Nat → Nat → Nat) (g : Nat) (X : Nat → Nat) : Prop := X g = 0 ∧ (∀ a b, ed a b = true → X a < 1000000000 → X b ≤ X a + w b a) ∧ (∀ q, X q < 1000000000 → q = g ∨ ∃ a, ed a q = true ∧ X a < 1000000000 ∧ X q = X a + w q a)
theorem tab_le {ed : Nat → Nat → Bool} {w : Nat → Nat → Nat} {g : Nat} {X Y : Nat → Nat} (hg : gr ed w) (hX : tab ed w g X) (hY : tab ed w g Y) : ∀ n q, X q = n → X q < 1000000000 → Y q ≤ X q := by
  intro n
  induction n using Nat.strongRecOn with
  | ind n ih =>
    intro q hq hl
    rcases hX.2.2 q hl with e | ⟨a, h1, h2, h3⟩
    · rw [e, hY.1]
      exact Nat.zero_le _
    · have hw := hg a q h1
      have := ih (X a) (by omega) a rfl h2
      have := hY.2.1 a q h1 (by omega)
      omega
theorem tab_uq {ed : Nat → Nat → Bool} {w : Nat → Nat → Nat} {g : Nat} {X Y : Nat → Nat} (hg : gr ed w) (hX : tab ed w g X) (hY : tab ed w g Y) (q : Nat) : (X q < 1000000000 ∨ Y q < 1000000000) → X q = Y q := by
  intro h
  rcases h with h | h
  · have a := tab_le hg hX hY _ q rfl h
    have b := tab_le hg hY hX _ q rfl (by omega)
    omega
  · have a := tab_le hg hY hX _ q rfl h
    have b := tab_le hg hX hY _ q rfl (by omega)
    omega
/-- one round: d made better by the edges out of squares below k -/
def rx (ed : Nat → Nat → Bool) (w : Nat → Nat → Nat) (d : Nat → Nat) (q : Nat) : Nat → Nat
  | 0 => d q
  | k + 1 => if ed k q = true ∧ d k < 1000000000 ∧ d k + w q k < rx ed w d q k then d k + w q k else rx ed w d q k
def BD (ed : Nat → Nat → Bool) (w : Nat → Nat → Nat) (g : Nat) : Nat → Nat → Nat
  | 0, q => if q = g then 0 else 1000000000
  | r + 1, q => rx ed w (BD ed w g r) q 256
theorem rx_le (ed : Nat → Nat → Bool) (w : Nat → Nat → Nat) (d : Nat → Nat) (q : Nat) : ∀ k, rx ed w d q k ≤ d q
  | 0 => Nat.le_refl _
  | k + 1 => by
    have := rx_le ed w d q k
    unfold rx
    split <;> omega
theorem rx_ed (ed : Nat → Nat → Bool) (w : Nat → Nat → Nat) (d : Nat → Nat) (q a : Nat) (h : ed a q = true) (hl : d a < 1000000000) : ∀ k, a < k → rx ed w d q k ≤ d a + w q a
  | 0, z => absurd z (Nat.not_lt_zero a)
  | k + 1, z => by
    unfold rx
    by_cases c : a = k
    · subst c
      split
      · exact Nat.le_refl _
      · rename_i y
        by_cases x : d a + w q a < rx ed w d q a
        · exact absurd ⟨h, hl, x⟩ y
        · omega
    · have := rx_ed ed w d q a h hl k (by omega)
      split <;> omega
theorem rx_or (ed : Nat → Nat → Bool) (w : Nat → Nat → Nat) (d : Nat → Nat) (q : Nat) : ∀ k, rx ed w d q k = d q ∨ ∃ a, ed a q = true ∧ d a < 1000000000 ∧ rx ed w d q k = d a + w q a
  | 0 => Or.inl rfl
  | k + 1 => by
    unfold rx
    split
    · rename_i y
      exact Or.inr ⟨k, y.1, y.2.1, rfl⟩
    · exact rx_or ed w d q k
theorem BD_mono (ed : Nat → Nat → Bool) (w : Nat → Nat → Nat) (g r q : Nat) : BD ed w g (r + 1) q ≤ BD ed w g r q := rx_le ed w _ q 256
theorem BD_ed {ed : Nat → Nat → Bool} {w : Nat → Nat → Nat} {g r q a : Nat} (hg : gr ed w) (h : ed a q = true) (hl : BD ed w g r a < 1000000000) : BD ed w g (r + 1) q ≤ BD ed w g r a + w q a := rx_ed ed w _ q a h hl 256 (hg a q h).1
theorem BD_g (ed : Nat → Nat → Bool) (w : Nat → Nat → Nat) (g : Nat) : ∀ r, BD ed w g r g = 0
  | 0 => if_pos rfl
  | r + 1 => by
    have h := BD_mono ed w g r g
    rw [BD_g ed w g r] at h
    omega
theorem BD_at {ed : Nat → Nat → Bool} {w : Nat → Nat → Nat} {g : Nat} : ∀ r q, BD ed w g r q < 1000000000 → q = g ∨ ∃ a, ed a q = true ∧ BD ed w g r a < 1000000000 ∧ BD ed w g r a + w q a ≤ BD ed w g r q
  | 0, q, h => by
    by_cases c : q = g
    · exact Or.inl c
    · have : BD ed w g 0 q = 1000000000 := if_neg c
      omega
  | r + 1, q, h => by
    have e : BD ed w g (r + 1) q = rx ed w (BD ed w g r) q 256 := rfl
    rcases rx_or ed w (BD ed w g r) q 256 with z | ⟨a, h1, h2, h3⟩
    · rcases BD_at (ed := ed) (w := w) (g := g) r q (by omega) with y | ⟨a, h1, h2, h3⟩
      · exact Or.inl y
      · have := BD_mono ed w g r a
        exact Or.inr ⟨a, h1, by omega, by omega⟩
    · have := BD_mono ed w g r a
      exact Or.inr ⟨a, h1, by omega, by omega⟩
/-- what the squares below k have in all -/
def sm (X : Nat → Nat) : Nat → Nat
  | 0 => 0
  | k + 1 => sm X k + X k
theorem sm_le {X Y : Nat → Nat} (h : ∀ q, X q ≤ Y q) : ∀ k, sm X k ≤ sm Y k
  | 0 => Nat.le_refl _
  | k + 1 => by
    have := sm_le h k
    have := h k
    show sm X k + X k ≤ sm Y k + Y k
    omega
theorem sm_eq {X Y : Nat → Nat} (h : ∀ q, X q ≤ Y q) : ∀ k, sm X k = sm Y k → ∀ q, q < k → X q = Y q
  | 0, _, q, hq => absurd hq (Nat.not_lt_zero q)
  | k + 1, e, q, hq => by
    have h1 := sm_le h k
    have h2 := h k
    have e : sm X k + X k = sm Y k + Y k := e
    by_cases c : q = k
    · subst c
      omega
    · exact sm_eq h k (by omega) q (by omega)
theorem stop_ex (f : Nat → Nat) (h : ∀ r, f (r + 1) ≤ f r) : ∃ r, f (r + 1) = f r := by
  have : ∀ n r, f r = n → ∃ r, f (r + 1) = f r := by
    intro n
    induction n using Nat.strongRecOn with
    | ind n ih =>
      intro r hr
      by_cases c : f (r + 1) = f r
      · exact ⟨r, c⟩
      · exact ih (f (r + 1)) (by have := h r; omega) (r + 1) rfl
  exact this _ 0 rfl
theorem tab_ex {ed : Nat → Nat → Bool} {w : Nat → Nat → Nat} {g : Nat} (hg : gr ed w) : ∃ D, tab ed w g D := by
  obtain ⟨R, hR⟩ := stop_ex (fun r => sm (BD ed w g r) 256) (fun r => sm_le (BD_mono ed w g r) 256)
  have e : ∀ q, q < 256 → BD ed w g (R + 1) q = BD ed w g R q := sm_eq (BD_mono ed w g R) 256 hR
  have cl : ∀ a b, ed a b = true → BD ed w g R a < 1000000000 → BD ed w g R b ≤ BD ed w g R a + w b a := by
    intro a b h1 h2
    rw [← e b (hg a b h1).2.1]
    exact BD_ed hg h1 h2
  refine ⟨BD ed w g R, BD_g ed w g R, cl, fun q hq => ?_⟩
  rcases BD_at R q hq with z | ⟨a, h1, h2, h3⟩
  · exact Or.inl z
  · have := cl a q h1 h2
    exact Or.inr ⟨a, h1, h2, by omega⟩
theorem BD_low {ed : Nat → Nat → Bool} {w : Nat → Nat → Nat} {g : Nat} {D : Nat → Nat} (hD : tab ed w g D) : ∀ r q, BD ed w g r q < 1000000000 → D q ≤ BD ed w g r q
  | 0, q, h => by
    by_cases c : q = g
    · rw [c, hD.1]; exact Nat.zero_le _
    · have : BD ed w g 0 q = 1000000000 := if_neg c
      omega
  | r + 1, q, h => by
    have e : BD ed w g (r + 1) q = rx ed w (BD ed w g r) q 256 := rfl
    rcases rx_or ed w (BD ed w g r) q 256 with z | ⟨a, h1, h2, h3⟩
    · have := BD_low hD r q (by omega)
      omega
    · have := BD_low hD r a h2
      have := hD.2.1 a q h1 (by omega)
      omega
/-- the square is final in round r -/
def fin (D : Nat → Nat) (X : Nat → Nat) (q : Nat) : Bool := decide (D q < 1000000000 → X q = D q)
theorem fin_up {ed : Nat → Nat → Bool} {w : Nat → Nat → Nat} {g : Nat} {D : Nat → Nat} (hD : tab ed w g D) {r q : Nat} (h : fin D (BD ed w g r) q = true) : fin D (BD ed w g (r + 1)) q = true := by
  have h := of_decide_eq_true h
  refine decide_eq_true (fun z => ?_)
  have h1 := h z
  have h2 := BD_mono ed w g r q
  have h3 := BD_low hD (r + 1) q (by omega)
  omega
theorem fb_lt {p q : Nat → Bool} {x : Nat} (h1 : p x = false) (h2 : q x = true) : ∀ {n : Nat}, x < n → (∀ k, k < n → p k = true → q k = true) → fb_ct p n < fb_ct q n
  | 0, hx, _ => absurd hx (Nat.not_lt_zero x)
  | n + 1, hx, h => by
    rw [fb_ct_succ, fb_ct_succ]
    by_cases c : x = n
    · subst c
      have := fb_ct_sub (p := p) (q := q) (n := x) (fun k hk => h k (by omega))
      rw [h1, h2]
      simp
      omega
    · have := fb_lt h1 h2 (n := n) (by omega) (fun k hk => h k (by omega))
      have := h n (Nat.lt_succ_self n)
      cases hp : p n
      · simp; split <;> omega
      · rw [this hp]; simp; omega
theorem fin_grow {ed : Nat → Nat → Bool} {w : Nat → Nat → Nat} {g : Nat} {D : Nat → Nat} (hg : gr ed w) (hD : tab ed w g D) (r : Nat) : ∀ n q, D q = n → q < 256 → fin D (BD ed w g r) q = false → ∃ x, x < 256 ∧ fin D (BD ed w g r) x = false ∧ fin D (BD ed w g (r + 1)) x = true := by
  intro n
  induction n using Nat.strongRecOn with
  | ind n ih =>
    intro q hn hq hf
    have hf0 := of_decide_eq_false hf
    have hl : D q < 1000000000 := by
      by_cases c : D q < 1000000000
      · exact c
      · exact absurd (fun z => absurd z c) hf0
    have hne : BD ed w g r q ≠ D q := fun z => hf0 (fun _ => z)
    rcases hD.2.2 q hl with e | ⟨a, h1, h2, h3⟩
    · rw [e, BD_g, hD.1] at hne
      exact absurd rfl hne
    · have hw := hg a q h1
      cases hc : fin D (BD ed w g r) a
      · exact ih (D a) (by omega) a rfl hw.1 hc
      · have ha := of_decide_eq_true hc h2
        have b1 := BD_ed (r := r) (g := g) hg h1 (by omega)
        have b2 := BD_low hD (r + 1) q (by omega)
        exact ⟨q, hq, hf, decide_eq_true (fun _ => by omega)⟩
theorem BD_255 {ed : Nat → Nat → Bool} {w : Nat → Nat → Nat} {g : Nat} {D : Nat → Nat} (hg : gr ed w) (hD : tab ed w g D) (hg2 : g < 256) {q : Nat} (hq : q < 256) (hl : D q < 1000000000) : BD ed w g 255 q = D q := by
  have key : ∀ r, (∀ q, q < 256 → fin D (BD ed w g r) q = true) ∨ r < fb_ct (fin D (BD ed w g r)) 256 := by
    intro r
    induction r with
    | zero =>
      refine Or.inr (fb_ct_pos.mpr ⟨g, hg2, decide_eq_true (fun _ => ?_)⟩)
      rw [BD_g, hD.1]
    | succ r ih =>
      by_cases c : ∀ q, q < 256 → fin D (BD ed w g r) q = true
      · exact Or.inl (fun q hq => fin_up hD (c q hq))
      · have ih := ih.resolve_left c
        obtain ⟨q, hc⟩ := Classical.not_forall.mp c
        obtain ⟨hq, hc⟩ := Classical.not_imp.mp hc
        have hc : fin D (BD ed w g r) q = false := by cases hp : fin D (BD ed w g r) q; rfl; exact absurd hp hc
        obtain ⟨x, hx, h1, h2⟩ := fin_grow hg hD r _ q rfl hq hc
        have := fb_lt h1 h2 hx (fun k _ z => fin_up hD z)
        exact Or.inr (by omega)
  rcases key 255 with h | h
  · exact of_decide_eq_true (h q hq) hl
  · have := fb_ct_le (fin D (BD ed w g 255)) 256
    have e : fb_ct (fin D (BD ed w g 255)) 256 = 256 := by omega
    exact of_decide_eq_true (fb_ct_all.mp e q hq) hl
