/-! ===== what undo goes back through ===== -/
abbrev Co : Type := (Nat → Option Nat) × (Nat → Int32) × Nat × (Nat → Int32) × (Nat → Int32) × Nat × (Nat → Int32)
def cup {α : Type} (f : Nat → α) (i : Nat) (v : α) : Nat → α := fun j => if j = i then v else f j
def RC (m : am_M) (c : Co) (S : Nat → Int32) (Z : Nat → Int64) : Prop := RS m c.1 c.2.1 c.2.2.1 c.2.2.2.1 c.2.2.2.2.1 c.2.2.2.2.2.1 c.2.2.2.2.2.2 S Z
/-- alike where it counts -/
def Ce (c d : Co) : Prop := (∀ i, i < 60 → c.1 i = d.1 i ∧ c.2.1 i = d.2.1 i) ∧ c.2.2.1 = d.2.2.1 ∧ (∀ f, f < c.2.2.1 → c.2.2.2.1 f = d.2.2.2.1 f ∧ c.2.2.2.2.1 f = d.2.2.2.2.1 f) ∧ c.2.2.2.2.2.1 = d.2.2.2.2.2.1 ∧ ∀ k, k < c.2.2.2.2.2.1 → c.2.2.2.2.2.2 k = d.2.2.2.2.2.2 k
theorem Ce.rf (c : Co) : Ce c c := ⟨fun _ _ => ⟨rfl, rfl⟩, rfl, fun _ _ => ⟨rfl, rfl⟩, rfl, fun _ _ => rfl⟩
theorem Ce.tr {c d e : Co} (h : Ce c d) (k : Ce d e) : Ce c e := by
  obtain ⟨h1, h2, h3, h4, h5⟩ := h
  obtain ⟨k1, k2, k3, k4, k5⟩ := k
  refine ⟨fun i hi => ⟨(h1 i hi).1.trans (k1 i hi).1, (h1 i hi).2.trans (k1 i hi).2⟩, h2.trans k2, fun f hf => ?_, h4.trans k4, fun x hx => ?_⟩
  · have a := h3 f hf
    have b := k3 f (by omega)
    exact ⟨a.1.trans b.1, a.2.trans b.2⟩
  · exact (h5 x hx).trans (k5 x (by omega))
/-- one act undone -/
def Un (a w o : Int32) (x : Option Nat) (c : Co) : Co :=
  if a = 0 then (cup c.1 w.toInt.toNat none, c.2)
  else if a = 1 then (cup c.1 w.toInt.toNat x, c.2)
  else if a = 2 then (c.1, cup c.2.1 w.toInt.toNat (-1), c.2.2)
  else if a = 3 then (c.1, cup c.2.1 w.toInt.toNat (-1), c.2.2.1 - 1, c.2.2.2)
  else if a = 4 then (c.1, cup c.2.1 w.toInt.toNat o, c.2.2)
  else if a = 5 then (c.1, c.2.1, c.2.2.1, cup c.2.2.2.1 w.toInt.toNat 0, c.2.2.2.2)
  else if a = 6 then (c.1, c.2.1, c.2.2.1, c.2.2.2.1, c.2.2.2.2.1, c.2.2.2.2.2.1 - 1, c.2.2.2.2.2.2)
  else (c.1, c.2.1, c.2.2.1, c.2.2.2.1, c.2.2.2.2.1, c.2.2.2.2.2.1, cup c.2.2.2.2.2.2 w.toInt.toNat o)
theorem cup_e {α : Type} {f g : Nat → α} {i j : Nat} {v : α} (h : f j = g j) : cup f i v j = cup g i v j := by
  unfold cup
  by_cases c : j = i
  · rw [if_pos c, if_pos c]
  · rw [if_neg c, if_neg c]
    exact h
theorem Ce.un {c d : Co} (h : Ce c d) (a w o : Int32) (x : Option Nat) : Ce (Un a w o x c) (Un a w o x d) := by
  obtain ⟨h1, h2, h3, h4, h5⟩ := h
  unfold Un
  by_cases a0 : a = 0
  · rw [if_pos a0, if_pos a0]
    exact ⟨fun i hi => ⟨cup_e (h1 i hi).1, (h1 i hi).2⟩, h2, h3, h4, h5⟩
  rw [if_neg a0, if_neg a0]
  by_cases a1 : a = 1
  · rw [if_pos a1, if_pos a1]
    exact ⟨fun i hi => ⟨cup_e (h1 i hi).1, (h1 i hi).2⟩, h2, h3, h4, h5⟩
  rw [if_neg a1, if_neg a1]
  by_cases a2 : a = 2
  · rw [if_pos a2, if_pos a2]
    exact ⟨fun i hi => ⟨(h1 i hi).1, cup_e (h1 i hi).2⟩, h2, h3, h4, h5⟩
  rw [if_neg a2, if_neg a2]
  by_cases a3 : a = 3
  · rw [if_pos a3, if_pos a3]
    refine ⟨fun i hi => ⟨(h1 i hi).1, cup_e (h1 i hi).2⟩, ?_, fun f hf => h3 f ?_, h4, h5⟩
    · show c.2.2.1 - 1 = d.2.2.1 - 1
      rw [h2]
    · have hf : f < c.2.2.1 - 1 := hf
      omega
  rw [if_neg a3, if_neg a3]
  by_cases a4 : a = 4
  · rw [if_pos a4, if_pos a4]
    exact ⟨fun i hi => ⟨(h1 i hi).1, cup_e (h1 i hi).2⟩, h2, h3, h4, h5⟩
  rw [if_neg a4, if_neg a4]
  by_cases a5 : a = 5
  · rw [if_pos a5, if_pos a5]
    exact ⟨h1, h2, fun f hf => ⟨cup_e (h3 f hf).1, (h3 f hf).2⟩, h4, h5⟩
  rw [if_neg a5, if_neg a5]
  by_cases a6 : a = 6
  · rw [if_pos a6, if_pos a6]
    refine ⟨h1, h2, h3, ?_, fun k hk => h5 k ?_⟩
    · show c.2.2.2.2.2.1 - 1 = d.2.2.2.2.2.1 - 1
      rw [h4]
    · have hk : k < c.2.2.2.2.2.1 - 1 := hk
      omega
  rw [if_neg a6, if_neg a6]
  exact ⟨h1, h2, h3, h4, fun k hk => cup_e (h5 k hk)⟩
theorem RC.ce {m : am_M} {c d : Co} {S : Nat → Int32} {Z : Nat → Int64} (h : RC m c S Z) (k : Ce c d) : RC m d S Z := by
  obtain ⟨k1, k2, k3, k4, k5⟩ := k
  have ec : ∀ f : Int32, fb_ct (fun i => decide (d.2.1 i = f)) 60 = fb_ct (fun i => decide (c.2.1 i = f)) 60 := fun f => fb_ct_cong (fun i hi => by rw [(k1 i hi).2])
  refine ⟨fun i hi => ?_, fun i hi => ?_, fun i hi => ?_, ?_, fun f hf => ?_, fun f hf => ?_, ?_, fun x hx => ?_, fun f hf hp => ?_⟩
  · rw [← (k1 i hi).1]; exact h.places i hi
  · rw [← (k1 i hi).2]; exact h.joined i hi
  · rw [← (k1 i hi).1, ← (k1 i hi).2, ← k2]; exact h.joins i hi
  · rw [← k2]; exact h.ever
  · rw [← k2] at hf
    rw [← (k3 f hf).1, ec]
    exact h.outs f hf
  · rw [← k2] at hf
    rw [← (k3 f hf).2]
    exact h.again f hf
  · rw [← k4]; exact h.crews
  · rw [← k4] at hx
    rw [← k5 x hx]
    exact h.stands x hx
  · rw [← k2] at hf
    rw [ec] at hp
    obtain ⟨q, hq, w⟩ := h.patch f hf hp
    exact ⟨q, hq, fun i hi e => w i hi (by rw [(k1 i hi).2]; exact e)⟩
/-- entries stand: new cells and writes below them leave a relation as it is -/
theorem RC.gr {A : List Nat} {m m1 : am_M} (g : Gr A m m1) (hn : 130 ≤ am_n m) (hA : ∀ a, a ∈ A → a < 133) (h8 : 8 ∉ A) {c : Co} {S : Nat → Int32} {Z : Nat → Int64} (h : RC m c S Z) : RC m1 c S Z := by
  have e8 : m1.2.1 8 = m.2.1 8 := g.J (by omega) h8
  refine ⟨fun i hi => ?_, h.joined, fun i hi => ?_, h.ever, h.outs, h.again, h.crews, h.stands, h.patch⟩
  · have p := h.places i hi
    unfold PlOK at p ⊢
    cases hc : c.1 i with
    | none => rw [hc] at p; exact p
    | some e =>
      rw [hc] at p
      dsimp only at p ⊢
      obtain ⟨p0, p1, p2, p3, p4, p5, p6, p7, p8⟩ := p
      have ie : m1.1 e = m.1 e := g.I p0.2.2.1 (fun z => by have := hA e z; have := p0.2.1; omega)
      have re : am_gR YL m1 e 4 = am_gR YL m e 4 := g.R p0.2.2.1 (fun z => by have := hA e z; have := p0.2.1; omega) 4
      rw [ie, re]
      refine ⟨p0.gr g hA, p1, p2, p3, p4, p5, p6, p7, fun s hs q hq => ?_⟩
      have sb := p0.2.2.2 s hs
      rw [g.J sb.2.2 (fun z => by have := hA _ z; omega), e8]
      exact p8 s hs q hq
  · rcases h.joins i hi with z | ⟨f, hf, z, e, s, h1, h2⟩
    · exact Or.inl z
    · have p := h.places i hi
      unfold PlOK at p
      rw [h1] at p
      have p0 : EnOK m e := p.1
      refine Or.inr ⟨f, hf, z, e, s, h1, ?_⟩
      rw [g.R p0.2.2.1 (fun z => by have := hA e z; have := p0.2.1; omega)]
      exact h2
/-- the core as it stands -/
def core (m : am_M) (E C : Nat) : Co := (fun i => am_gR YL m 35 i, m.1 36, E, m.1 39, m.1 40, C, m.1 92)
def dix (tp j : Nat) : Nat := (tp + 49 - j) % 50
def chn (m : am_M) (tp : Nat) (c : Co) : Nat → Co
  | 0 => c
  | j + 1 => Un (m.1 98 (dix tp j)) (m.1 99 (dix tp j)) (m.1 100 (dix tp j)) (am_gR YL m 101 (dix tp j)) (chn m tp c j)
theorem chn_ce {m : am_M} {tp : Nat} {c d : Co} (h : Ce c d) : ∀ j, Ce (chn m tp c j) (chn m tp d j)
  | 0 => h
  | j + 1 => (chn_ce h j).un _ _ _ _
/-- an act kept: the old chain is the new one's tail -/
theorem chn_kept {m m1 : am_M} {tp sz : Nat} {a w o : Int32} {x : Option Nat} (ht : tp < 50) (k : Kept m m1 tp sz a w o x) {c d : Co} (h : Ce (Un a w o x d) c) : ∀ j, j < 50 → Ce (chn m1 ((tp + 1) % 50) d (j + 1)) (chn m tp c j)
  | 0, _ => by
    obtain ⟨_, _, _, k1, k2, k3, k4⟩ := k
    show Ce (Un (m1.1 98 (dix ((tp + 1) % 50) 0)) (m1.1 99 (dix ((tp + 1) % 50) 0)) (m1.1 100 (dix ((tp + 1) % 50) 0)) (am_gR YL m1 101 (dix ((tp + 1) % 50) 0)) d) c
    have e : dix ((tp + 1) % 50) 0 = tp := by unfold dix; omega
    rw [e, k1, k2, k3, k4, if_pos rfl, if_pos rfl, if_pos rfl, if_pos rfl]
    exact h
  | j + 1, hj => by
    have ih := chn_kept ht k h j (by omega)
    obtain ⟨_, _, _, k1, k2, k3, k4⟩ := k
    have e : dix ((tp + 1) % 50) (j + 1) = dix tp j := by unfold dix; omega
    have ne : ¬ dix tp j = tp := by unfold dix; omega
    show Ce (Un (m1.1 98 (dix ((tp + 1) % 50) (j + 1))) (m1.1 99 (dix ((tp + 1) % 50) (j + 1))) (m1.1 100 (dix ((tp + 1) % 50) (j + 1))) (am_gR YL m1 101 (dix ((tp + 1) % 50) (j + 1))) (chn m1 ((tp + 1) % 50) d (j + 1))) (Un (m.1 98 (dix tp j)) (m.1 99 (dix tp j)) (m.1 100 (dix tp j)) (am_gR YL m 101 (dix tp j)) (chn m tp c j))
    rw [e, k1, k2, k3, k4, if_neg ne, if_neg ne, if_neg ne, if_neg ne]
    exact ih.un _ _ _ _
