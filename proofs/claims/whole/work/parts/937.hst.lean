/-! ===== history: what is kept on both sides ===== -/
theorem Ce.sy {c d : Co} (h : Ce c d) : Ce d c := by
  obtain ⟨h1, h2, h3, h4, h5⟩ := h
  exact ⟨fun i hi => ⟨(h1 i hi).1.symm, (h1 i hi).2.symm⟩, h2.symm, fun f hf => ⟨(h3 f (by omega)).1.symm, (h3 f (by omega)).2.symm⟩, h4.symm, fun k hk => (h5 k (by omega)).symm⟩
theorem RC.sz {m : am_M} {c : Co} {S S' : Nat → Int32} {Z Z' : Nat → Int64} (hS : ∀ k, k < 350 → S' k = S k) (hZ : ∀ k, k < 240 → Z' k = Z k) (h : RC m c S Z) : RC m c S' Z' := by
  have ez : ∀ i q, i < 60 → q < 256 → wb (fun w => Z' (4 * i + w)) q = wb (fun w => Z (4 * i + w)) q := fun i q hi hq => wb4 (fun w hw => hZ _ (by omega)) hq
  have hE := h.ever
  have hC := h.crews
  refine ⟨fun i hi => ?_, fun i hi => ?_, h.joins, ⟨hE.1, by rw [hS _ (by omega)]; exact hE.2⟩, fun f hf => ?_, fun f hf => ?_, ⟨hC.1, by rw [hS _ (by omega)]; exact hC.2⟩, fun x hx => ?_, fun f hf hp => ?_⟩
  · have p := h.places i hi
    unfold PlOK at p ⊢
    cases hc : c.1 i with
    | none =>
      rw [hc] at p
      dsimp only at p ⊢
      rw [hS i (by omega)]
      exact p
    | some e =>
      rw [hc] at p
      dsimp only at p ⊢
      rw [hS i (by omega), hS (60 + i) (by omega), hS (120 + i) (by omega), hS (240 + i) (by omega)]
      obtain ⟨p0, p1, p2, p3, p4, p5, p6, p7, p8⟩ := p
      refine ⟨p0, p1, p2, p3, p4, p5, p6, p7, fun s hs q hq => ?_⟩
      rw [ez i q hi hq]
      exact p8 s hs q hq
  · rw [hS _ (by omega)]; exact h.joined i hi
  · rw [hS _ (by have := hE.1; omega)]; exact h.outs f hf
  · rw [hS _ (by have := hE.1; omega)]; exact h.again f hf
  · rw [hS _ (by have := hC.1; omega)]; exact h.stands x hx
  · obtain ⟨q, hq, w⟩ := h.patch f hf hp
    exact ⟨q, hq, fun i hi e => by rw [ez i q hi hq]; exact w i hi e⟩
/-- an act that can be undone -/
def DV (a w o : Int32) (x : Option Nat) (c : Co) : Prop :=
  (a = 0 ∧ ∃ i : Nat, i < 60 ∧ w = iI (i : Int) ∧ ∃ e, c.1 i = some e) ∨
  (a = 1 ∧ ∃ i : Nat, i < 60 ∧ w = iI (i : Int) ∧ c.1 i = none ∧ ∃ e, x = some e) ∨
  (a = 2 ∧ ∃ i f : Nat, i < 60 ∧ w = iI (i : Int) ∧ o = iI (f : Int) ∧ f < c.2.2.1 ∧ c.2.1 i = iI (f : Int)) ∨
  (a = 3 ∧ ∃ i E : Nat, i < 60 ∧ w = iI (i : Int) ∧ E < 20 ∧ c.2.2.1 = E + 1 ∧ c.2.1 i = iI (E : Int)) ∨
  (a = 4 ∧ ∃ i f : Nat, i < 60 ∧ w = iI (i : Int) ∧ o = iI (f : Int) ∧ f < c.2.2.1 ∧ c.2.1 i = -1) ∨
  (a = 5 ∧ ∃ f : Nat, w = iI (f : Int) ∧ f < c.2.2.1) ∨
  (a = 6 ∧ ∃ C : Nat, C < 8 ∧ c.2.2.2.2.2.1 = C + 1) ∨
  (a = 7 ∧ ∃ k : Nat, w = iI (k : Int) ∧ k < c.2.2.2.2.2.1)
theorem DV.ce {a w o : Int32} {x : Option Nat} {c d : Co} (h : DV a w o x c) (k : Ce c d) : DV a w o x d := by
  obtain ⟨k1, k2, _, k4, _⟩ := k
  unfold DV at h ⊢
  rw [← k2, ← k4]
  rcases h with ⟨h0, i, h1, h2, h3⟩ | ⟨h0, i, h1, h2, h3, h4⟩ | ⟨h0, i, f, h1, h2, h3, h4, h5⟩ | ⟨h0, i, f, h1, h2, h3, h4, h5⟩ | ⟨h0, i, f, h1, h2, h3, h4, h5⟩ | h | h | h
  · exact Or.inl ⟨h0, i, h1, h2, by rw [← (k1 i h1).1]; exact h3⟩
  · exact Or.inr (Or.inl ⟨h0, i, h1, h2, by rw [← (k1 i h1).1]; exact h3, h4⟩)
  · exact Or.inr (Or.inr (Or.inl ⟨h0, i, f, h1, h2, h3, h4, by rw [← (k1 i h1).2]; exact h5⟩))
  · exact Or.inr (Or.inr (Or.inr (Or.inl ⟨h0, i, f, h1, h2, h3, h4, by rw [← (k1 i h1).2]; exact h5⟩)))
  · exact Or.inr (Or.inr (Or.inr (Or.inr (Or.inl ⟨h0, i, f, h1, h2, h3, h4, by rw [← (k1 i h1).2]; exact h5⟩))))
  · exact Or.inr (Or.inr (Or.inr (Or.inr (Or.inr (Or.inl h)))))
  · exact Or.inr (Or.inr (Or.inr (Or.inr (Or.inr (Or.inr (Or.inl h))))))
  · exact Or.inr (Or.inr (Or.inr (Or.inr (Or.inr (Or.inr (Or.inr h))))))
theorem chn_fr {m m1 : am_M} (h1 : m1.1 98 = m.1 98) (h2 : m1.1 99 = m.1 99) (h3 : m1.1 100 = m.1 100) (h4 : ∀ j, am_gR YL m1 101 j = am_gR YL m 101 j) (tp : Nat) (c : Co) : ∀ j, chn m1 tp c j = chn m tp c j
  | 0 => rfl
  | j + 1 => by
    show Un _ _ _ _ (chn m1 tp c j) = Un _ _ _ _ (chn m tp c j)
    rw [chn_fr h1 h2 h3 h4 tp c j, h1, h2, h3, h4]
/-- the histories of both, j acts back -/
def Hj (m : am_M) (tp lt : Nat) (c : Co) (j : Nat) : Prop := DV (m.1 98 (dix tp j)) (m.1 99 (dix tp j)) (m.1 100 (dix tp j)) (am_gR YL m 101 (dix tp j)) (chn m tp c j) ∧ RC m (chn m tp c (j + 1)) (fun k => m.1 117 (350 * ((lt + 50 - j) % 50) + k)) (fun k => m.2.1 118 (240 * ((lt + 50 - j) % 50) + k))
def Hist (m : am_M) (tp sz lt : Nat) (c : Co) : Prop := tp < 50 ∧ sz ≤ 50 ∧ lt < 50 ∧ m.1 97 4 = iI (tp : Int) ∧ m.1 97 5 = iI (sz : Int) ∧ m.1 109 13 = iI (sz : Int) ∧ m.1 109 14 = iI (lt : Int) ∧ ∀ j, j < sz → Hj m tp lt c j
/-- an act on both sides -/
theorem Hist.act {A : List Nat} {m mk m1 m2 : am_M} {tp sz lt : Nat} {c d : Co} (hH : Hist m tp sz lt c) (hc : RC m c (m.1 115) (m.2.1 116)) (hn : 130 ≤ am_n m)
    {a w o : Int32} {x : Option Nat} (k98 : mk.1 98 = m.1 98) (k99 : mk.1 99 = m.1 99) (k100 : mk.1 100 = m.1 100) (k101 : ∀ j, am_gR YL mk 101 j = am_gR YL m 101 j) (hk : Kept mk m1 tp sz a w o x)
    (f98 : m2.1 98 = m1.1 98) (f99 : m2.1 99 = m1.1 99) (f100 : m2.1 100 = m1.1 100) (f101 : ∀ j, am_gR YL m2 101 j = am_gR YL m1 101 j) (f97 : m2.1 97 = m1.1 97)
    (g115 : m1.1 115 = m.1 115) (g116 : m1.2.1 116 = m.2.1 116) (g117 : m1.1 117 = m.1 117) (g118 : m1.2.1 118 = m.2.1 118) (ha : Acted m1 m2 lt sz)
    (gr : Gr A m m2) (hA : ∀ a, a ∈ A → a < 133) (h8 : 8 ∉ A) (dv : DV a w o x d) (ce : Ce (Un a w o x d) c) :
    Hist m2 ((tp + 1) % 50) (if sz + 1 < 50 then sz + 1 else 50) ((lt + 1) % 50) d := by
  obtain ⟨t1, t2, t3, t4, t5, t6, t7, t8⟩ := hH
  obtain ⟨b1, b2, b3, b4, b5, b6⟩ := ha
  have hk2 := hk
  obtain ⟨_, kA, kB, kC, kD, kE, kF⟩ := hk2
  have sb : (if sz + 1 < 50 then sz + 1 else 50) ≤ sz + 1 ∧ (if sz + 1 < 50 then sz + 1 else 50) ≤ 50 := by
    by_cases z : sz + 1 < 50
    · rw [if_pos z]; omega
    · rw [if_neg z]; omega
  have ch : ∀ j, chn m2 ((tp + 1) % 50) d j = chn m1 ((tp + 1) % 50) d j := chn_fr f98 f99 f100 f101 _ _
  have chm : ∀ j, chn mk tp c j = chn m tp c j := chn_fr k98 k99 k100 k101 _ _
  refine ⟨Nat.mod_lt _ (by decide), sb.2, Nat.mod_lt _ (by decide), by rw [f97]; exact kA, by rw [f97]; exact kB, b2, b1, fun j hj => ?_⟩
  cases j with
  | zero =>
    have e : dix ((tp + 1) % 50) 0 = tp := by unfold dix; omega
    refine ⟨?_, ?_⟩
    · rw [e, f98, f99, f100, f101, kC, kD, kE, kF, if_pos rfl, if_pos rfl, if_pos rfl, if_pos rfl]
      exact dv
    · rw [ch]
      have ck := chn_kept t1 hk (c := c) ce 0 (by decide)
      have r0 : RC m2 c (m.1 115) (m.2.1 116) := hc.gr gr hn hA h8
      have ei : ((lt + 1) % 50 + 50 - 0) % 50 = (lt + 1) % 50 := by omega
      refine (RC.ce (RC.sz (S := m.1 115) (Z := m.2.1 116) (fun k hk' => ?_) (fun k hk' => ?_) r0) ?_)
      · rw [ei, b3 k hk', g115]
      · rw [ei, b5 k hk', g116]
      · exact ck.sy
  | succ j =>
    have e : dix ((tp + 1) % 50) (j + 1) = dix tp j := by unfold dix; omega
    have ne : ¬ dix tp j = tp := by unfold dix; omega
    have j50 : j + 1 < 50 := by omega
    have hj2 : j < sz := by omega
    obtain ⟨v1, v2⟩ := t8 j hj2
    have c1 := chn_kept t1 hk (c := c) ce j (by omega)
    have c2 := chn_kept t1 hk (c := c) ce (j + 1) j50
    rw [chm] at c1 c2
    refine ⟨?_, ?_⟩
    · rw [ch, e, f98, f99, f100, f101, kC, kD, kE, kF, if_neg ne, if_neg ne, if_neg ne, if_neg ne, k98, k99, k100, k101]
      exact v1.ce c1.sy
    · rw [ch]
      have ei : ((lt + 1) % 50 + 50 - (j + 1)) % 50 = (lt + 50 - j) % 50 := by omega
      have nx : (lt + 50 - j) % 50 ≠ (lt + 1) % 50 := by omega
      have lx : (lt + 50 - j) % 50 < 50 := Nat.mod_lt _ (by decide)
      refine RC.ce (RC.sz (fun k hk' => ?_) (fun k hk' => ?_) (v2.gr gr hn hA h8)) c2.sy
      · rw [ei, b4 _ lx nx k hk', g117]
      · rw [ei, b6 _ lx nx k hk', g118]
/-- nothing of it touched -/
theorem Hist.fr {A : List Nat} {m m2 : am_M} {tp sz lt : Nat} {c : Co} (hH : Hist m tp sz lt c) (hn : 130 ≤ am_n m) (f97 : m2.1 97 = m.1 97) (f98 : m2.1 98 = m.1 98) (f99 : m2.1 99 = m.1 99) (f100 : m2.1 100 = m.1 100) (f101 : ∀ j, am_gR YL m2 101 j = am_gR YL m 101 j) (f117 : m2.1 117 = m.1 117) (f118 : m2.2.1 118 = m.2.1 118) (f13 : m2.1 109 13 = m.1 109 13) (f14 : m2.1 109 14 = m.1 109 14) (gr : Gr A m m2) (hA : ∀ a, a ∈ A → a < 133) (h8 : 8 ∉ A) : Hist m2 tp sz lt c := by
  obtain ⟨t1, t2, t3, t4, t5, t6, t7, t8⟩ := hH
  have ch : ∀ j, chn m2 tp c j = chn m tp c j := chn_fr f98 f99 f100 f101 _ _
  refine ⟨t1, t2, t3, by rw [f97]; exact t4, by rw [f97]; exact t5, by rw [f13]; exact t6, by rw [f14]; exact t7, fun j hj => ?_⟩
  obtain ⟨v1, v2⟩ := t8 j hj
  refine ⟨by rw [f98, f99, f100, f101, ch]; exact v1, ?_⟩
  rw [ch, f117, f118]
  exact v2.gr gr hn hA h8
theorem chn_tail {m : am_M} {tp tq : Nat} (hq : tq = dix tp 0) {c d : Co} (h : Ce d (chn m tp c 1)) : ∀ j, j ≤ 48 → Ce (chn m tq d j) (chn m tp c (j + 1))
  | 0, _ => h
  | j + 1, hj => by
    have ih := chn_tail hq h j (by omega)
    have e : dix tq j = dix tp (j + 1) := by rw [hq]; unfold dix; omega
    show Ce (Un (m.1 98 (dix tq j)) (m.1 99 (dix tq j)) (m.1 100 (dix tq j)) (am_gR YL m 101 (dix tq j)) (chn m tq d j)) (Un (m.1 98 (dix tp (j + 1))) (m.1 99 (dix tp (j + 1))) (m.1 100 (dix tp (j + 1))) (am_gR YL m 101 (dix tp (j + 1))) (chn m tp c (j + 1)))
    rw [e]
    exact ih.un _ _ _ _
/-- one undone on both sides -/
theorem Hist.undo {A : List Nat} {m m2 : am_M} {tp sz lt : Nat} {c d : Co} (hH : Hist m tp (sz + 1) lt c) (hn : 130 ≤ am_n m) (g4 : m2.1 97 4 = iI (dix tp 0 : Int)) (g5 : m2.1 97 5 = iI (sz : Int)) (f98 : m2.1 98 = m.1 98) (f99 : m2.1 99 = m.1 99) (f100 : m2.1 100 = m.1 100) (f101 : ∀ j, am_gR YL m2 101 j = am_gR YL m 101 j) (f117 : m2.1 117 = m.1 117) (f118 : m2.2.1 118 = m.2.1 118) (f13 : m2.1 109 13 = iI (sz : Int)) (f14 : m2.1 109 14 = iI (((lt + 49) % 50 : Nat) : Int)) (gr : Gr A m m2) (hA : ∀ a, a ∈ A → a < 133) (h8 : 8 ∉ A) (ce : Ce d (chn m tp c 1)) : Hist m2 (dix tp 0) sz ((lt + 49) % 50) d := by
  obtain ⟨t1, t2, t3, t4, t5, t6, t7, t8⟩ := hH
  have ch : ∀ j, chn m2 (dix tp 0) d j = chn m (dix tp 0) d j := chn_fr f98 f99 f100 f101 _ _
  refine ⟨by unfold dix; exact Nat.mod_lt _ (by decide), by omega, Nat.mod_lt _ (by decide), g4, g5, f13, f14, fun j hj => ?_⟩
  obtain ⟨v1, v2⟩ := t8 (j + 1) (by omega)
  have e : dix (dix tp 0) j = dix tp (j + 1) := by unfold dix; omega
  have c1 := chn_tail (m := m) rfl ce j (by omega)
  have i1 : ((lt + 49) % 50 + 50 - j) % 50 = (lt + 50 - (j + 1)) % 50 := by omega
  refine ⟨?_, ?_⟩
  · rw [e, f98, f99, f100, f101, ch]
    exact v1.ce c1.sy
  · rw [ch, i1, f117, f118]
    have c2 : Ce (chn m (dix tp 0) d (j + 1)) (chn m tp c (j + 2)) := by
      show Ce (Un (m.1 98 (dix (dix tp 0) j)) (m.1 99 (dix (dix tp 0) j)) (m.1 100 (dix (dix tp 0) j)) (am_gR YL m 101 (dix (dix tp 0) j)) (chn m (dix tp 0) d j)) (Un (m.1 98 (dix tp (j + 1))) (m.1 99 (dix tp (j + 1))) (m.1 100 (dix tp (j + 1))) (am_gR YL m 101 (dix tp (j + 1))) (chn m tp c (j + 1)))
      rw [e]
      exact c1.un _ _ _ _
    exact RC.ce (v2.gr gr hn hA h8) c2.sy
