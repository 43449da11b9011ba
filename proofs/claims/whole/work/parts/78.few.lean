/-! ===== the fewest fires: the table ===== -/
def lo (g : Nat) : Nat := g &&& (g - 1)
theorem tb_s (n i : Nat) : n.testBit (i + 1) = (n / 2).testBit i := Nat.testBit_succ n i
theorem tb_0 (n : Nat) : n.testBit 0 = decide (n % 2 = 1) := Nat.testBit_zero n
theorem lo_bits : ∀ g, 0 < g → ∃ k, g.testBit k = true ∧ (∀ j, j < k → g.testBit j = false) ∧ ∀ j, (lo g).testBit j = (g.testBit j && !decide (j = k)) := by
  intro g
  induction g using Nat.strongRecOn with
  | ind g ih =>
    intro hg
    by_cases c : g % 2 = 1
    · refine ⟨0, by rw [tb_0, decide_eq_true c], fun j hj => absurd hj (Nat.not_lt_zero j), fun j => ?_⟩
      unfold lo
      rw [Nat.testBit_and]
      cases j with
      | zero => rw [tb_0 (g - 1), decide_eq_false (by omega : ¬ (g - 1) % 2 = 1), Bool.and_false, decide_eq_true rfl]; simp
      | succ j => rw [tb_s, tb_s, show (g - 1) / 2 = g / 2 by omega, Bool.and_self, decide_eq_false (Nat.succ_ne_zero j)]; simp
    · obtain ⟨k, h1, h2, h3⟩ := ih (g / 2) (by omega) (by omega)
      refine ⟨k + 1, by rw [tb_s]; exact h1, fun j hj => ?_, fun j => ?_⟩
      · cases j with
        | zero => rw [tb_0, decide_eq_false c]
        | succ j => rw [tb_s]; exact h2 j (by omega)
      · unfold lo
        cases j with
        | zero => rw [Nat.testBit_and, tb_0, decide_eq_false c, Bool.false_and, Bool.false_and]
        | succ j =>
          have := h3 j
          unfold lo at this
          rw [tb_s, Nat.and_div_two, show (g - 1) / 2 = g / 2 - 1 by omega, this, tb_s]
          congr 2
          exact decide_eq_decide.mpr (by omega)
theorem lo_lt {g : Nat} (h : 0 < g) : lo g < g := by
  have : g &&& (g - 1) ≤ g - 1 := Nat.and_le_right
  unfold lo
  omega
theorem sub_iff {p r : Nat} : p &&& r = p ↔ ∀ j, p.testBit j = true → r.testBit j = true := by
  constructor
  · intro h j hj
    have : (p &&& r).testBit j = p.testBit j := by rw [h]
    rw [Nat.testBit_and, hj, Bool.true_and] at this
    exact this
  · intro h
    refine Nat.eq_of_testBit_eq (fun j => ?_)
    rw [Nat.testBit_and]
    cases c : p.testBit j with
    | false => rfl
    | true => rw [h j c]; rfl
theorem sub_le {p r : Nat} (h : p &&& r = p) : p ≤ r := by
  rw [← h]
  exact Nat.and_le_right
theorem sub_half {p r : Nat} (h : p &&& r = p) : (p / 2) &&& (r / 2) = p / 2 ∧ p % 2 ≤ r % 2 := by
  constructor
  · rw [← Nat.and_div_two, h]
  · have := sub_iff.mp h 0
    rw [tb_0, tb_0] at this
    by_cases c : p % 2 = 1
    · have := of_decide_eq_true (this (decide_eq_true c))
      omega
    · omega
theorem sub_step : ∀ a r q : Nat, a &&& r = a → q &&& r = q → q < a → q ≤ (a - 1) &&& r := by
  intro a
  induction a using Nat.strongRecOn with
  | ind a ih =>
    intro r q ha hq hl
    have ha2 := sub_half ha
    have hq2 := sub_half hq
    have d := Nat.and_div_two (a := a - 1) (b := r)
    have e : ((a - 1) &&& r) % 2 = 1 ↔ (a - 1) % 2 = 1 ∧ r % 2 = 1 := by
      have t := tb_0 ((a - 1) &&& r)
      rw [Nat.testBit_and, tb_0, tb_0] at t
      constructor
      · intro z
        rw [decide_eq_true z] at t
        have := Bool.and_eq_true_iff.mp t
        exact ⟨of_decide_eq_true this.1, of_decide_eq_true this.2⟩
      · intro z
        rw [decide_eq_true z.1, decide_eq_true z.2] at t
        exact of_decide_eq_true t.symm
    by_cases c : a % 2 = 1
    · rw [show (a - 1) / 2 = a / 2 by omega, ha2.1] at d
      omega
    · have := ih (a / 2) (by omega) (r / 2) (q / 2) ha2.1 hq2.1 (by omega)
      rw [show (a - 1) / 2 = a / 2 - 1 by omega] at d
      omega
/-- one fire's law: no two alike, a square in all -/
def ONE (al st : Nat → Nat → Bool) (g : Nat) : Prop := (∀ i j, i < j → g.testBit i = true → g.testBit j = true → al i j = false) ∧ ∃ q, q < 256 ∧ ∀ j, g.testBit j = true → st j q = true
def FL (O : Nat → Prop) (F : Nat → Nat) (g : Nat) : Prop := (O g ∧ F g = 1) ∨ (¬ O g ∧ (∀ p, p ≠ 0 → p &&& lo g = p → O (g ^^^ p) → F g ≤ F p + 1) ∧ ∃ p, p ≠ 0 ∧ p &&& lo g = p ∧ O (g ^^^ p) ∧ F g = F p + 1)
theorem FL_uq {O : Nat → Prop} {F G : Nat → Nat} {n : Nat} (h1 : ∀ g, 0 < g → g < n → FL O F g) (h2 : ∀ g, 0 < g → g < n → FL O G g) : ∀ g, 0 < g → g < n → F g = G g := by
  intro g
  induction g using Nat.strongRecOn with
  | ind g ih =>
    intro hg hn
    have e : ∀ p, p ≠ 0 → p &&& lo g = p → F p = G p := fun p hp hs => by
      have a := sub_le hs
      have b := lo_lt hg
      exact ih p (by omega) (by omega) (by omega)
    rcases h1 g hg hn with ⟨a, b⟩ | ⟨a, b, p, p1, p2, p3, p4⟩
    · rcases h2 g hg hn with ⟨c, d⟩ | ⟨c, _⟩
      · rw [b, d]
      · exact absurd a c
    · rcases h2 g hg hn with ⟨c, _⟩ | ⟨c, d, q, q1, q2, q3, q4⟩
      · exact absurd c a
      · have x := b q q1 q2 q3
        have y := d p p1 p2 p3
        have := e p p1 p2
        have := e q q1 q2
        omega
theorem FL_pos {O : Nat → Prop} {F : Nat → Nat} {g : Nat} (h : FL O F g) : 1 ≤ F g := by
  rcases h with ⟨_, b⟩ | ⟨_, _, p, _, _, _, p4⟩ <;> omega
theorem FL_one {O : Nat → Prop} {F : Nat → Nat} {g : Nat} (h : FL O F g) (hp : ∀ p, 0 < p → p < g → 1 ≤ F p) (hg : 0 < g) : F g = 1 ↔ O g := by
  rcases h with ⟨a, b⟩ | ⟨a, _, p, p1, p2, _, p4⟩
  · exact ⟨fun _ => a, fun _ => b⟩
  · have x := sub_le p2
    have y := lo_lt hg
    have z := hp p (by omega) (by omega)
    exact ⟨fun w => by omega, fun w => absurd w a⟩
theorem lo_x {g : Nat} (h : 0 < g) : ∃ k, g.testBit k = true ∧ g ^^^ lo g = 2 ^ k ∧ (lo g).testBit k = false ∧ lo g ||| 2 ^ k = g := by
  obtain ⟨k, h1, h2, h3⟩ := lo_bits g h
  refine ⟨k, h1, Nat.eq_of_testBit_eq (fun j => ?_), by rw [h3, decide_eq_true rfl]; simp, Nat.eq_of_testBit_eq (fun j => ?_)⟩
  · rw [Nat.testBit_xor, h3, Nat.testBit_two_pow]
    by_cases c : j = k
    · subst c; rw [h1, decide_eq_true rfl]; rfl
    · rw [decide_eq_false c, decide_eq_false (fun z => c z.symm)]; simp
  · rw [Nat.testBit_or, h3, Nat.testBit_two_pow]
    by_cases c : j = k
    · subst c; rw [h1, decide_eq_true rfl]; rfl
    · rw [decide_eq_false c, decide_eq_false (fun z => c z.symm)]; simp
theorem lo_k {g k : Nat} (hg : g < 1024) (h : g.testBit k = true) : k < 10 := by
  by_cases c : k < 10
  · exact c
  · have : g.testBit k = false := Nat.testBit_lt_two_pow (Nat.lt_of_lt_of_le hg (Nat.pow_le_pow_right (n := 2) (i := 10) (by decide) (by omega)))
    rw [this] at h
    cases h
theorem pcn_lo {g : Nat} (hg : 0 < g) (hb : g < 1024) : pcn g = pcn (lo g) + 1 := by
  obtain ⟨k, h1, h2, h3, h4⟩ := lo_x hg
  have := pcn_or (t := lo g) (k := k) (by have := lo_k hb h1; omega) h3
  rw [h4] at this
  exact this
theorem pcn_10 {g : Nat} (hb : g < 1024) : pcn g ≤ 10 := by
  have h : ∀ n, n ≤ 32 → fb_ct (fun i => g.testBit i) n ≤ 10 := by
    intro n
    induction n with
    | zero => intro _; exact Nat.zero_le _
    | succ n ih =>
      intro hn
      by_cases c : n < 10
      · have := fb_ct_le (fun i => g.testBit i) (n + 1)
        omega
      · have e : fb_ct (fun i => g.testBit i) (n + 1) = fb_ct (fun i => g.testBit i) n := by
          have : g.testBit n = false := by
            cases hc : g.testBit n
            · rfl
            · exact absurd (lo_k hb hc) c
          show fb_ct (fun i => g.testBit i) n + (if g.testBit n = true then 1 else 0) = _
          rw [this]
          rfl
        rw [e]
        exact ih (by omega)
  exact h 32 (Nat.le_refl _)
theorem lo_0 {g : Nat} (hg : 0 < g) (h : lo g = 0) : ∃ k, g = 2 ^ k := by
  obtain ⟨k, h1, h2, h3, h4⟩ := lo_x hg
  exact ⟨k, by rw [← h4, h, Nat.zero_or]⟩
/-- some part is always there -/
theorem FL_ex {O : Nat → Prop} (hO : ∀ k, k < 10 → O (2 ^ k)) {g : Nat} (hg : 0 < g) (hb : g < 1024) (hn : ¬ O g) : lo g ≠ 0 ∧ O (g ^^^ lo g) := by
  obtain ⟨k, h1, h2, h3, h4⟩ := lo_x hg
  have hk := lo_k hb h1
  refine ⟨fun z => ?_, by rw [h2]; exact hO k hk⟩
  rw [z, Nat.zero_or] at h4
  rw [← h4] at hn
  exact hn (hO k hk)
theorem FL_le {O : Nat → Prop} {F : Nat → Nat} (hO : ∀ k, k < 10 → O (2 ^ k)) {g : Nat} (hg : 0 < g) (hb : g < 1024) (h : FL O F g) (ih : ∀ p, 0 < p → p < g → F p ≤ pcn p) : F g ≤ pcn g := by
  have e := pcn_lo hg hb
  rcases h with ⟨_, b⟩ | ⟨a, b, _⟩
  · omega
  · have x := FL_ex hO hg hb a
    have y := b (lo g) x.1 (Nat.and_self _) x.2
    have z := lo_lt hg
    have w := ih (lo g) (by have := x.1; omega) z
    omega
theorem ONE_single {al st : Nat → Nat → Bool} {k : Nat} (h : ∃ q, q < 256 ∧ st k q = true) : ONE al st (2 ^ k) := by
  have e : ∀ i, (2 ^ k : Nat).testBit i = true → i = k := fun i hi => by
    rw [Nat.testBit_two_pow] at hi
    exact (of_decide_eq_true hi).symm
  refine ⟨fun i j hij hi hj => ?_, ?_⟩
  · have := e i hi
    have := e j hj
    omega
  · obtain ⟨q, hq, h⟩ := h
    exact ⟨q, hq, fun j hj => by rw [e j hj]; exact h⟩
theorem ONE_cong {al st al' st' : Nat → Nat → Bool} {n g : Nat} (hg : g < 2 ^ n) (h1 : ∀ i j, i < j → j < n → al i j = al' i j) (h2 : ∀ j q, j < n → q < 256 → st j q = st' j q) : ONE al st g ↔ ONE al' st' g := by
  have b : ∀ j, g.testBit j = true → j < n := fun j hj => by
    by_cases c : j < n
    · exact c
    · rw [Nat.testBit_lt_two_pow (Nat.lt_of_lt_of_le hg (Nat.pow_le_pow_right (by decide) (by omega)))] at hj
      cases hj
  constructor
  · rintro ⟨a, q, hq, c⟩
    exact ⟨fun i j hij hi hj => by rw [← h1 i j hij (b j hj)]; exact a i j hij hi hj, q, hq, fun j hj => by rw [← h2 j q (b j hj) hq]; exact c j hj⟩
  · rintro ⟨a, q, hq, c⟩
    exact ⟨fun i j hij hi hj => by rw [h1 i j hij (b j hj)]; exact a i j hij hi hj, q, hq, fun j hj => by rw [h2 j q (b j hj) hq]; exact c j hj⟩
theorem FL_O {O O' : Nat → Prop} {F : Nat → Nat} {g : Nat} {n : Nat} (hg : g < 2 ^ n) (h : ∀ x, x < 2 ^ n → (O x ↔ O' x)) (a : FL O F g) : FL O' F g := by
  have hx : ∀ p, p &&& lo g = p → g ^^^ p < 2 ^ n := fun p hp => Nat.xor_lt_two_pow hg (Nat.lt_of_le_of_lt (sub_le hp) (Nat.lt_of_le_of_lt (Nat.and_le_left (n := g) (m := g - 1)) hg))
  rcases a with ⟨a, b⟩ | ⟨a, b, p, p1, p2, p3, p4⟩
  · exact Or.inl ⟨(h g hg).mp a, b⟩
  · exact Or.inr ⟨fun z => a ((h g hg).mpr z), fun q q1 q2 q3 => b q q1 q2 ((h _ (hx q q2)).mpr q3), p, p1, p2, (h _ (hx p p2)).mp p3, p4⟩
