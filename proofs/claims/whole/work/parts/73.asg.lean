/-! ===== crews to fires: the first of the least ===== -/
def feas (n K : Nat) (w : Nat → Nat → Nat) (f : Nat → Nat) : Prop := (∀ p, p < n → f p < K ∧ w p (f p) < 1000000) ∧ (∀ p q, p < q → q < n → f p ≠ f q)
def wsum (w : Nat → Nat → Nat) (f : Nat → Nat) : Nat → Nat
  | 0 => 0
  | p + 1 => wsum w f p + w p (f p)
def lexle (n : Nat) (a b : Nat → Nat) : Prop := (∀ p, p < n → a p = b p) ∨ ∃ j, j < n ∧ (∀ p, p < j → a p = b p) ∧ a j < b j
/-- kk is the first of those with the least sum, S -/
def AS (n K : Nat) (w : Nat → Nat → Nat) (kk : Nat → Nat) (S : Nat) : Prop := feas n K w kk ∧ wsum w kk n = S ∧ ∀ f, feas n K w f → S ≤ wsum w f n ∧ (wsum w f n = S → lexle n kk f)
theorem wsum_cong {w : Nat → Nat → Nat} {f g : Nat → Nat} : ∀ n, (∀ p, p < n → f p = g p) → wsum w f n = wsum w g n
  | 0, _ => rfl
  | n + 1, h => by
    show wsum w f n + w n (f n) = wsum w g n + w n (g n)
    rw [wsum_cong n (fun p hp => h p (by omega)), h n (Nat.lt_succ_self n)]
theorem lex_anti {n : Nat} {a b : Nat → Nat} (h1 : lexle n a b) (h2 : lexle n b a) : ∀ p, p < n → a p = b p := by
  rcases h1 with h1 | ⟨j, hj, e1, l1⟩
  · exact h1
  · rcases h2 with h2 | ⟨i, hi, e2, l2⟩
    · exact fun p hp => (h2 p hp).symm
    · exfalso
      rcases Nat.lt_trichotomy i j with c | c | c
      · have := e1 i c
        omega
      · subst c
        omega
      · have := e2 j c
        omega
theorem AS_uq {n K : Nat} {w : Nat → Nat → Nat} {k1 k2 : Nat → Nat} {S1 S2 : Nat} (h1 : AS n K w k1 S1) (h2 : AS n K w k2 S2) : S1 = S2 ∧ ∀ p, p < n → k1 p = k2 p := by
  have a := h1.2.2 k2 h2.1
  have b := h2.2.2 k1 h1.1
  have e : S1 = S2 := by have := h1.2.1; have := h2.2.1; omega
  refine ⟨e, lex_anti (a.2 (by rw [h2.2.1, e])) (b.2 (by rw [h1.2.1, e]))⟩
theorem feas_w {n K : Nat} {w w' : Nat → Nat → Nat} (hw : ∀ p k, p < n → k < K → (w p k < 1000000 ∨ w' p k < 1000000) → w p k = w' p k) {f : Nat → Nat} (h : feas n K w f) : feas n K w' f ∧ wsum w f n = wsum w' f n := by
  have e : ∀ p, p < n → w p (f p) = w' p (f p) := fun p hp => hw p (f p) hp (h.1 p hp).1 (Or.inl (h.1 p hp).2)
  refine ⟨⟨fun p hp => ⟨(h.1 p hp).1, by rw [← e p hp]; exact (h.1 p hp).2⟩, h.2⟩, ?_⟩
  have : ∀ k, k ≤ n → wsum w f k = wsum w' f k := by
    intro k
    induction k with
    | zero => intro _; rfl
    | succ k ih =>
      intro hk
      show wsum w f k + w k (f k) = wsum w' f k + w' k (f k)
      rw [ih (by omega), e k (by omega)]
  exact this n (Nat.le_refl n)
theorem AS_w {n K : Nat} {w w' : Nat → Nat → Nat} (hw : ∀ p k, p < n → k < K → (w p k < 1000000 ∨ w' p k < 1000000) → w p k = w' p k) {kk : Nat → Nat} {S : Nat} (h : AS n K w kk S) : AS n K w' kk S := by
  have a := feas_w hw h.1
  refine ⟨a.1, by rw [← a.2]; exact h.2.1, fun f hf => ?_⟩
  have b := feas_w (fun p k hp hk z => (hw p k hp hk z.symm).symm) hf
  rw [b.2]
  exact h.2.2 f b.1
/-! the class's table -/
def pcn (m : Nat) : Nat := fb_ct (fun i => m.testBit i) 32
/-- the least of the first k, capped -/
def lmn (g : Nat → Nat) (ok : Nat → Bool) : Nat → Nat
  | 0 => 10000000
  | k + 1 => if ok k = true ∧ g k < lmn g ok k then g k else lmn g ok k
theorem lmn_le (g : Nat → Nat) (ok : Nat → Bool) : ∀ k, lmn g ok k ≤ 10000000
  | 0 => Nat.le_refl _
  | k + 1 => by
    have := lmn_le g ok k
    unfold lmn
    split <;> omega
theorem lmn_lb (g : Nat → Nat) (ok : Nat → Bool) {j : Nat} (h : ok j = true) : ∀ k, j < k → lmn g ok k ≤ g j
  | 0, z => absurd z (Nat.not_lt_zero j)
  | k + 1, z => by
    unfold lmn
    by_cases c : j = k
    · subst c
      split
      · exact Nat.le_refl _
      · rename_i y
        by_cases x : g j < lmn g ok j
        · exact absurd ⟨h, x⟩ y
        · omega
    · have := lmn_lb g ok h k (by omega)
      split <;> omega
theorem lmn_at (g : Nat → Nat) (ok : Nat → Bool) : ∀ k, lmn g ok k = 10000000 ∨ ∃ j, j < k ∧ ok j = true ∧ g j = lmn g ok k
  | 0 => Or.inl rfl
  | k + 1 => by
    unfold lmn
    split
    · rename_i y
      exact Or.inr ⟨k, Nat.lt_succ_self k, y.1, rfl⟩
    · rcases lmn_at g ok k with h | ⟨j, h1, h2, h3⟩
      · exact Or.inl h
      · exact Or.inr ⟨j, by omega, h2, h3⟩
theorem lmn_cong {g g' : Nat → Nat} {ok ok' : Nat → Bool} : ∀ k, (∀ j, j < k → ok j = ok' j) → (∀ j, j < k → ok j = true → g j = g' j) → lmn g ok k = lmn g' ok' k
  | 0, _, _ => rfl
  | k + 1, h1, h2 => by
    have ih := lmn_cong k (fun j hj => h1 j (by omega)) (fun j hj => h2 j (by omega))
    unfold lmn
    rw [ih, ← h1 k (Nat.lt_succ_self k)]
    by_cases c : ok k = true
    · rw [h2 k (Nat.lt_succ_self k) c]
    · rw [if_neg (fun z => c z.1), if_neg (fun z => c z.1)]
/-- the table's law -/
def LT (n K : Nat) (w : Nat → Nat → Nat) (L : Nat → Nat) : Prop := ∀ t, t < 256 → L t = if n ≤ pcn t then 0 else lmn (fun k => w (pcn t) k + L (t ||| 2 ^ k)) (fun k => !t.testBit k) K
theorem or_lt {t k : Nat} (ht : t < 256) (hk : k < 8) : t ||| 2 ^ k < 256 := Nat.or_lt_two_pow (n := 8) ht (Nat.pow_lt_pow_right (by decide) hk)
theorem pcn_or {t k : Nat} (hk : k < 32) (h : t.testBit k = false) : pcn (t ||| 2 ^ k) = pcn t + 1 := by
  unfold pcn
  have e := fb_ct_upd (fun i => t.testBit i) true hk
  rw [h, if_neg Bool.false_ne_true, if_pos rfl] at e
  rw [← Nat.add_zero (fb_ct _ 32)]
  rw [show fb_ct (fun i => (t ||| 2 ^ k).testBit i) 32 = fb_ct (fun i => if i = k then true else t.testBit i) 32 from fb_ct_cong (fun i _ => by
    rw [Nat.testBit_or, Nat.testBit_two_pow]
    by_cases c : i = k
    · rw [if_pos c, decide_eq_true c.symm, Bool.or_true]
    · rw [if_neg c, decide_eq_false (fun z => c z.symm), Bool.or_false])]
  exact e
/-- what is left of f's sum from p on -/
def wrest (w : Nat → Nat → Nat) (f : Nat → Nat) (n p : Nat) : Nat := wsum w f n - wsum w f p
theorem wsum_mono (w : Nat → Nat → Nat) (f : Nat → Nat) {p : Nat} : ∀ n, p ≤ n → wsum w f p ≤ wsum w f n
  | 0, h => by rw [show p = 0 by omega]; exact Nat.le_refl _
  | n + 1, h => by
    by_cases c : p = n + 1
    · rw [c]; exact Nat.le_refl _
    · have := wsum_mono w f n (p := p) (by omega)
      show wsum w f p ≤ wsum w f n + w n (f n)
      omega
theorem wrest_s (w : Nat → Nat → Nat) (f : Nat → Nat) {n p : Nat} (h : p < n) : wrest w f n p = w p (f p) + wrest w f n (p + 1) := by
  unfold wrest
  have a := wsum_mono w f (p := p + 1) n h
  have b : wsum w f (p + 1) = wsum w f p + w p (f p) := rfl
  omega
theorem LT_low {n K : Nat} {w : Nat → Nat → Nat} {L : Nat → Nat} (hK : K ≤ 8) (hL : LT n K w L) {f : Nat → Nat} (hf : feas n K w f) : ∀ d t, t < 256 → pcn t + d = n → (∀ p, pcn t ≤ p → p < n → t.testBit (f p) = false) → L t ≤ wrest w f n (pcn t)
  | 0, t, ht, hd, _ => by
    rw [hL t ht, if_pos (by omega)]
    exact Nat.zero_le _
  | d + 1, t, ht, hd, hz => by
    have hp : pcn t < n := by omega
    have fb := hf.1 (pcn t) hp
    have z := hz (pcn t) (Nat.le_refl _) hp
    have e := pcn_or (t := t) (k := f (pcn t)) (by omega) z
    have ih := LT_low hK hL hf d (t ||| 2 ^ f (pcn t)) (or_lt ht (by omega)) (by omega) (fun p hp1 hp2 => by
      rw [Nat.testBit_or, Nat.testBit_two_pow, hz p (by omega) hp2, decide_eq_false (hf.2 (pcn t) p (by omega) hp2)]
      rfl)
    rw [e] at ih
    rw [hL t ht, if_neg (by omega), wrest_s w f hp]
    have := lmn_lb (fun k => w (pcn t) k + L (t ||| 2 ^ k)) (fun k => !t.testBit k) (j := f (pcn t)) (by rw [z]; rfl) K fb.1
    omega
/-- the masks and crews of the greedy walk -/
def GW (n K : Nat) (w : Nat → Nat → Nat) (L : Nat → Nat) (kk : Nat → Nat) (mk : Nat → Nat) : Prop := mk 0 = 0 ∧ ∀ p, p < n → mk (p + 1) = mk p ||| 2 ^ kk p ∧ kk p < K ∧ (mk p).testBit (kk p) = false ∧ w p (kk p) + L (mk p ||| 2 ^ kk p) = L (mk p) ∧ ∀ j, j < kk p → (mk p).testBit j = false → w p j + L (mk p ||| 2 ^ j) ≠ L (mk p)
theorem GW_m {n K : Nat} {w : Nat → Nat → Nat} {L kk mk : Nat → Nat} (hK : K ≤ 8) (h : GW n K w L kk mk) : ∀ p, p ≤ n → mk p < 256 ∧ pcn (mk p) = p ∧ (∀ j, (mk p).testBit j = true ↔ ∃ q, q < p ∧ kk q = j)
  | 0, _ => by
    rw [h.1]
    refine ⟨by decide, by decide, fun j => ⟨fun z => ?_, fun ⟨q, hq, _⟩ => absurd hq (Nat.not_lt_zero q)⟩⟩
    rw [Nat.zero_testBit] at z
    cases z
  | p + 1, hp => by
    have ih := GW_m hK h p (by omega)
    have s := h.2 p (by omega)
    rw [s.1]
    refine ⟨or_lt ih.1 (by omega), by rw [pcn_or (by omega) s.2.2.1, ih.2.1], fun j => ?_⟩
    rw [Nat.testBit_or, Nat.testBit_two_pow, Bool.or_eq_true]
    constructor
    · intro z
      rcases z with z | z
      · obtain ⟨q, hq, e⟩ := (ih.2.2 j).mp z
        exact ⟨q, by omega, e⟩
      · exact ⟨p, by omega, of_decide_eq_true z⟩
    · rintro ⟨q, hq, e⟩
      by_cases c : q = p
      · exact Or.inr (by rw [c] at e; exact decide_eq_true e)
      · exact Or.inl ((ih.2.2 j).mpr ⟨q, by omega, e⟩)
theorem GW_AS {n K : Nat} {w : Nat → Nat → Nat} {L kk mk : Nat → Nat} (hK : K ≤ 8) (hn : n ≤ 8) (hL : LT n K w L) (hw : ∀ p k, w p k < 1000000 ∨ w p k = 10000000) (h : GW n K w L kk mk) (h0 : L 0 < 10000000) : AS n K w kk (L 0) := by
  have hm := GW_m hK h
  have low : ∀ p, p ≤ n → L (mk p) + wsum w kk p = L 0 := by
    intro p
    induction p with
    | zero => intro _; rw [h.1]; rfl
    | succ p ih =>
      intro hp
      have := ih (by omega)
      have s := h.2 p (by omega)
      show L (mk (p + 1)) + (wsum w kk p + w p (kk p)) = L 0
      rw [s.1]
      omega
  have fz : feas n K w kk := by
    refine ⟨fun p hp => ⟨(h.2 p hp).2.1, ?_⟩, fun p q hpq hq e => ?_⟩
    · have a := low p (by omega)
      have s := h.2 p hp
      rcases hw p (kk p) with z | z
      · exact z
      · omega
    · have s := (h.2 q hq).2.2.1
      have := ((hm q (by omega)).2.2 (kk q)).mpr ⟨p, hpq, e⟩
      rw [s] at this
      cases this
  have end0 : L (mk n) = 0 := by
    have a := hm n (Nat.le_refl n)
    rw [hL _ a.1, if_pos (by omega)]
  have p0 : pcn 0 = 0 := by decide
  refine ⟨fz, by have := low n (Nat.le_refl n); omega, fun f hf => ?_⟩
  have lo := LT_low hK hL hf n 0 (by decide) (by omega) (fun p _ _ => Nat.zero_testBit _)
  rw [p0] at lo
  have e0 : wrest w f n 0 = wsum w f n := by
    unfold wrest
    exact Nat.sub_zero _
  rw [e0] at lo
  refine ⟨lo, fun hs => ?_⟩
  -- the first place where they part
  have part : ∀ d, d ≤ n → (∀ p, p < d → kk p = f p) ∨ ∃ j, j < d ∧ (∀ p, p < j → kk p = f p) ∧ kk j ≠ f j := by
    intro d
    induction d with
    | zero => intro _; exact Or.inl (fun p hp => absurd hp (Nat.not_lt_zero p))
    | succ d ih =>
      intro hd
      rcases ih (by omega) with a | ⟨j, a1, a2, a3⟩
      · by_cases c : kk d = f d
        · left
          intro p hp
          by_cases e : p = d
          · rw [e]; exact c
          · exact a p (by omega)
        · exact Or.inr ⟨d, by omega, a, c⟩
      · exact Or.inr ⟨j, by omega, a2, a3⟩
  rcases part n (Nat.le_refl n) with a | ⟨j, a1, a2, a3⟩
  · exact Or.inl a
  · refine Or.inr ⟨j, a1, a2, ?_⟩
    rcases Nat.lt_or_gt_of_ne a3 with c | c
    · exact c
    · exfalso
      have mj := hm j (by omega)
      have fbit : (mk j).testBit (f j) = false := by
        cases hb : (mk j).testBit (f j)
        · rfl
        · obtain ⟨q, hq, e⟩ := (mj.2.2 (f j)).mp hb
          rw [a2 q hq] at e
          exact absurd e (hf.2 q j hq a1)
      have s := h.2 j a1
      refine s.2.2.2.2 (f j) c fbit ?_
      have fj := hf.1 j a1
      have pc := pcn_or (t := mk j) (k := f j) (by omega) fbit
      have l1 := LT_low hK hL hf (n - (j + 1)) (mk j ||| 2 ^ f j) (or_lt mj.1 (by omega)) (by omega) (fun p hp1 hp2 => by
        rw [Nat.testBit_or, Nat.testBit_two_pow, decide_eq_false (hf.2 j p (by omega) hp2), Bool.or_false]
        cases hb : (mk j).testBit (f p)
        · rfl
        · obtain ⟨q, hq, e⟩ := (mj.2.2 (f p)).mp hb
          rw [a2 q hq] at e
          exact absurd e (hf.2 q p (by omega) hp2))
      rw [pc, mj.2.1] at l1
      have l2 : L (mk j) ≤ w j (f j) + L (mk j ||| 2 ^ f j) := by
        rw [hL (mk j) mj.1, if_neg (by omega), mj.2.1]
        have := lmn_lb (fun k => w j k + L (mk j ||| 2 ^ k)) (fun k => !(mk j).testBit k) (j := f j) (by rw [fbit]; rfl) K fj.1
        exact this
      have l3 := low j (by omega)
      have l4 := wrest_s w f a1
      have l5 : wsum w kk j = wsum w f j := wsum_cong j a2
      have l6 : wrest w f n j + wsum w f j = wsum w f n := by
        unfold wrest
        have := wsum_mono w f (p := j) n (by omega)
        omega
      omega
theorem LT_no {n K : Nat} {w : Nat → Nat → Nat} {L : Nat → Nat} (hK : K ≤ 8) (hn : n ≤ 8) (hL : LT n K w L) (h0 : 10000000 ≤ L 0) (f : Nat → Nat) : ¬ feas n K w f := by
  intro hf
  have p0 : pcn 0 = 0 := by decide
  have lo := LT_low hK hL hf n 0 (by decide) (by omega) (fun p _ _ => Nat.zero_testBit _)
  rw [p0] at lo
  unfold wrest at lo
  have : ∀ k, k ≤ n → wsum w f k ≤ 1000000 * k := by
    intro k
    induction k with
    | zero => intro _; exact Nat.le_refl _
    | succ k ih =>
      intro hk
      have := ih (by omega)
      have := (hf.1 k (by omega)).2
      show wsum w f k + w k (f k) ≤ _
      omega
  have := this n (Nat.le_refl n)
  have e : wsum w f 0 = 0 := rfl
  omega
theorem GW_ex {n K : Nat} {w : Nat → Nat → Nat} {L : Nat → Nat} (hK : K ≤ 8) (hn : n ≤ K) (hL : LT n K w L) {t p : Nat} (ht : t < 256) (hp : pcn t = p) (hpn : p < n) (hl : L t < 10000000) : ∃ k, k < K ∧ t.testBit k = false ∧ w p k + L (t ||| 2 ^ k) = L t := by
  have e := hL t ht
  rw [if_neg (by omega), hp] at e
  rcases lmn_at (fun k => w p k + L (t ||| 2 ^ k)) (fun k => !t.testBit k) K with z | ⟨j, h1, h2, h3⟩
  · omega
  · refine ⟨j, h1, ?_, by rw [e]; exact h3⟩
    cases hb : t.testBit j
    · rfl
    · rw [hb] at h2; cases h2
