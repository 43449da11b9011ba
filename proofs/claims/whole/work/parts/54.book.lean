/-! ===== frames with references; entries; the book ===== -/
def Ar (A : List Nat) (m m1 : am_M) : Prop := (∀ a, a ∉ A → m1.1 a = m.1 a ∧ m1.2.1 a = m.2.1 a ∧ m1.2.2.1 a = m.2.2.1 a) ∧ m1.2.2.2 = m.2.2.2
theorem Ar.rf (A : List Nat) (m : am_M) : Ar A m m := ⟨fun _ _ => ⟨rfl, rfl, rfl⟩, rfl⟩
theorem Ar.tr {A : List Nat} {m m1 m2 : am_M} (h1 : Ar A m m1) (h2 : Ar A m1 m2) : Ar A m m2 := ⟨fun a ha => ⟨((h2.1 a ha).1).trans (h1.1 a ha).1, ((h2.1 a ha).2.1).trans (h1.1 a ha).2.1, ((h2.1 a ha).2.2).trans (h1.1 a ha).2.2⟩, h2.2.trans h1.2⟩
theorem Ar.sub {A B : List Nat} {m m1 : am_M} (h : Ar A m m1) (hs : ∀ a, a ∈ A → a ∈ B) : Ar B m m1 := ⟨fun a ha => h.1 a (fun z => ha (hs a z)), h.2⟩
theorem Ar.ag {A B : List Nat} {m m1 : am_M} (h : Ag A m m1) (hs : ∀ a, a ∈ A → a ∈ B) : Ar B m m1 := ⟨fun a ha => ⟨(h.1 a (fun z => ha (hs a z))).1, (h.1 a (fun z => ha (hs a z))).2, by rw [h.2]⟩, by rw [h.2]⟩
theorem Ar.fm {A F B : List Nat} {m m1 : am_M} (h : Fm A F m m1) (h9 : 109 ∈ B) (hs : ∀ a, a ∈ A → a ∈ B) : Ar B m m1 := ⟨fun a ha => ⟨h.1 a (fun z => ha (hs a z)) (fun e => ha (by rw [e]; exact h9)), h.2.1 a (fun z => ha (hs a z)), by rw [h.2.2.2]⟩, by rw [h.2.2.2]⟩
theorem Ar.pI {A : List Nat} {m m1 : am_M} (h : Ar A m m1) {a : Nat} (ha : a ∈ A) (j : Nat) (v : Int32) : Ar A m (am_pI m1 a j v) := ⟨fun b hb => ⟨(am_pI_ne (fun e => hb (by rw [e]; exact ha))).trans (h.1 b hb).1, (h.1 b hb).2⟩, h.2⟩
theorem Ar.pJ {A : List Nat} {m m1 : am_M} (h : Ar A m m1) {a : Nat} (ha : a ∈ A) (j : Nat) (v : Int64) : Ar A m (am_pJ m1 a j v) := ⟨fun b hb => ⟨(h.1 b hb).1, (am_pJ_ne (fun e => hb (by rw [e]; exact ha))).trans (h.1 b hb).2.1, (h.1 b hb).2.2⟩, h.2⟩
theorem am_pR_at (m : am_M) (a j y : Nat) (v : Option Nat) : (am_pR m a j v).2.2.1 a y = if y = j then v else m.2.2.1 a y := am_u_at
theorem am_pR_ne {m : am_M} {a j b : Nat} {v : Option Nat} (h : b ≠ a) : (am_pR m a j v).2.2.1 b = m.2.2.1 b := am_u_ne h
theorem Ar.pR {A : List Nat} {m m1 : am_M} (h : Ar A m m1) {a : Nat} (ha : a ∈ A) (j : Nat) (v : Option Nat) : Ar A m (am_pR m1 a j v) := ⟨fun b hb => ⟨(h.1 b hb).1, (h.1 b hb).2.1, (am_pR_ne (fun e => hb (by rw [e]; exact ha))).trans (h.1 b hb).2.2⟩, h.2⟩
theorem Ar.wI {A : List Nat} {m m1 : am_M} (h : Ar A m m1) {a : Nat} (ha : a ∈ A) (f : Nat → Int32) : Ar A m (am_wI m1 a f) := ⟨fun b hb => ⟨(am_wI_ne (b := b) (a := a) (fun e => hb (by rw [e]; exact ha))).trans (h.1 b hb).1, (h.1 b hb).2⟩, h.2⟩
theorem Ar.I {A : List Nat} {m m1 : am_M} (h : Ar A m m1) {a : Nat} (ha : a ∉ A) : m1.1 a = m.1 a := (h.1 a ha).1
theorem Ar.J {A : List Nat} {m m1 : am_M} (h : Ar A m m1) {a : Nat} (ha : a ∉ A) : m1.2.1 a = m.2.1 a := (h.1 a ha).2.1
theorem Ar.R {A : List Nat} {m m1 : am_M} (h : Ar A m m1) {a : Nat} (ha : a ∉ A) (j : Nat) : am_gR YL m1 a j = am_gR YL m a j := by
  unfold am_gR
  rw [(h.1 a ha).2.2]
theorem Ar.k {A : List Nat} {m m1 : am_M} (h : Ar A m m1) (a : Nat) : am_k YL m1 a = am_k YL m a := by
  unfold am_k
  rw [h.2]
theorem Ar.n {A : List Nat} {m m1 : am_M} (h : Ar A m m1) : am_n m1 = am_n m := by
  unfold am_n
  rw [h.2]
theorem Ar.sq {A : List Nat} {m m1 : am_M} (h : Ar A m m1) {a : Nat} (ha : a ∉ A) (hs : sw_sq m a) : sw_sq m1 a := by
  unfold sw_sq at *
  rw [h.k, h.k, h.R ha]
  exact hs
theorem Ar.en {A : List Nat} {m m1 : am_M} (h : Ar A m m1) {a : Nat} (hs : sw_en m a) : sw_en m1 a := by
  unfold sw_en at *
  rw [h.k]
  exact hs
/-- an entry, with its squares, among the cells made since -/
def EnOK (m : am_M) (e : Nat) : Prop := sw_en m e ∧ 133 ≤ e ∧ e < am_n m + 3 ∧ ∀ s, am_gR YL m e 4 = some s → sw_sq m s ∧ 133 ≤ s ∧ s + 1 < am_n m + 3
theorem EnOK.fr {A : List Nat} {m m1 : am_M} (h : Ar A m m1) (hA : ∀ a, a ∈ A → a < 133) {e : Nat} (he : EnOK m e) : EnOK m1 e := by
  obtain ⟨h1, h2, h3, h4⟩ := he
  refine ⟨h.en h1, h2, by rw [h.n]; exact h3, fun s hs => ?_⟩
  rw [h.R (fun z => by have := hA e z; omega)] at hs
  have := h4 s hs
  exact ⟨h.sq (fun z => by have := hA s z; omega) this.1, this.2.1, by rw [h.n]; exact this.2.2⟩
def BK (m : am_M) : Prop := ∀ i, i < 60 → ∀ e, am_gR YL m 35 i = some e → EnOK m e
theorem BK.fr {A : List Nat} {m m1 : am_M} (h : Ar A m m1) (hA : ∀ a, a ∈ A → a < 133) (h35 : 35 ∉ A) (hB : BK m) : BK m1 := by
  intro i hi e he
  rw [h.R h35] at he
  exact (hB i hi e he).fr h hA
def cent (m : am_M) (i : Int) : Option Nat := if 0 ≤ i ∧ i < 60 then am_gR YL m 35 i.toNat else none
def csq (m : am_M) (i : Int) : Option Nat := match cent m i with
  | none => none
  | some e => am_gR YL m e 4
def cfi (m : am_M) (i : Int) : Int32 := if 0 ≤ i ∧ i < 60 then m.1 36 i.toNat else -1
theorem cent_n (m : am_M) {i : Nat} (hi : i < 60) : cent m (i : Int) = am_gR YL m 35 i := by
  unfold cent
  rw [if_pos (by omega), Int.toNat_natCast]
theorem cfi_n (m : am_M) {i : Nat} (hi : i < 60) : cfi m (i : Int) = m.1 36 i := by
  unfold cfi
  rw [if_pos (by omega), Int.toNat_natCast]
theorem cent_ok {m : am_M} (hB : BK m) {i : Int} {e : Nat} (h : cent m i = some e) : EnOK m e := by
  unfold cent at h
  by_cases c : 0 ≤ i ∧ i < 60
  · rw [if_pos c] at h
    exact hB i.toNat (by omega) e h
  · rw [if_neg c] at h
    cases h
theorem csq_ok {m : am_M} (hB : BK m) {i : Int} {s : Nat} (h : csq m i = some s) : sw_sq m s ∧ 133 ≤ s ∧ s + 1 < am_n m + 3 := by
  unfold csq at h
  cases hc : cent m i with
  | none => rw [hc] at h; cases h
  | some e =>
    rw [hc] at h
    exact (cent_ok hB hc).2.2.2 s h
theorem S_entryAt (m : am_M) (Q : Option Value → am_M → Prop) (hB : BK m) (i : Int) (hbi : -2147483648 ≤ i ∧ i ≤ 2147483647) (h : Q (some (va_rf (cent m i))) m) : am_WP YL 57 0 0 0 [some (.ref 34), some (.int (iI i))] [] m Q := by
  refine B_X5_entryAt_0 m Q _ ?_
  by_cases c : 0 ≤ i ∧ i < 60
  · have hok := fun e => cent_ok hB (i := i) (e := e)
    unfold cent at h hok
    rw [if_pos c] at h hok
    simp (disch := omega) only [iI_lit, iI_ofNat, iI_neg, iI_add, iI_sub, iI_mul, iI_lt, iI_le, iI_eq, iI_in, iI_cl]
    refine ⟨fun z => by omega, fun _ => ⟨fun z => by omega, fun _ => ⟨by omega, ?_⟩⟩⟩
    cases hr : am_gR YL m 35 i.toNat with
    | none => rw [hr] at h; exact B_X5_entryAt_16n m Q h
    | some e => rw [hr] at h; exact B_X5_entryAt_16r m Q e (hok e hr).1 h
  · unfold cent at h
    rw [if_neg c] at h
    simp (disch := omega) only [iI_lit, iI_ofNat, iI_neg, iI_add, iI_sub, iI_mul, iI_lt, iI_le, iI_eq, iI_in, iI_cl]
    exact ⟨fun _ => h, fun _ => ⟨fun _ => h, fun z => by omega⟩⟩
theorem S_squaresOf (m : am_M) (Q : Option Value → am_M → Prop) (hB : BK m) (i : Int) (hbi : -2147483648 ≤ i ∧ i ≤ 2147483647) (h : Q (some (va_rf (csq m i))) m) : am_WP YL 58 0 0 0 [some (.ref 34), some (.int (iI i)), none] [] m Q := by
  refine B_X5_squaresOf_0 m Q _ (S_entryAt m _ hB i hbi ?_)
  unfold csq at h
  cases hc : cent m i with
  | none => rw [hc] at h; exact B_X5_squaresOf_5n m Q h
  | some e =>
    rw [hc] at h
    have hok := cent_ok hB hc
    refine B_X5_squaresOf_5r m Q e hok.1 ?_
    cases hs : am_gR YL m e 4 with
    | none => dsimp only at h; rw [hs] at h; exact B_X5_squaresOf_18n m Q h
    | some s => dsimp only at h; rw [hs] at h; exact B_X5_squaresOf_18r m Q s (hok.2.2.2 s hs).1 h
theorem S_fireOf (m : am_M) (Q : Option Value → am_M → Prop) (i : Int) (hbi : -2147483648 ≤ i ∧ i ≤ 2147483647) (h : Q (some (.int (cfi m i))) m) : am_WP YL 60 0 0 0 [some (.ref 34), some (.int (iI i))] [] m Q := by
  refine B_X5_fireOf_0 m Q _ ?_
  unfold cfi at h
  by_cases c : 0 ≤ i ∧ i < 60
  · rw [if_pos c] at h
    simp (disch := omega) only [iI_lit, iI_ofNat, iI_neg, iI_add, iI_sub, iI_mul, iI_lt, iI_le, iI_eq, iI_in, iI_cl]
    exact ⟨fun z => by omega, fun _ => ⟨fun z => by omega, fun _ => ⟨by omega, h⟩⟩⟩
  · rw [if_neg c] at h
    simp (disch := omega) only [iI_lit, iI_ofNat, iI_neg, iI_add, iI_sub, iI_mul, iI_lt, iI_le, iI_eq, iI_in, iI_cl]
    exact ⟨fun _ => h, fun _ => ⟨fun _ => h, fun z => by omega⟩⟩
def csa (m : am_M) (i : Int) : Int32 := if 0 ≤ i ∧ i < 60 then m.1 37 i.toNat else -1
theorem csa_n (m : am_M) {i : Nat} (hi : i < 60) : csa m (i : Int) = m.1 37 i := by
  unfold csa
  rw [if_pos (by omega), Int.toNat_natCast]
theorem S_saidOf (m : am_M) (Q : Option Value → am_M → Prop) (i : Int) (hbi : -2147483648 ≤ i ∧ i ≤ 2147483647) (h : Q (some (.int (csa m i))) m) : am_WP YL 62 0 0 0 [some (.ref 34), some (.int (iI i))] [] m Q := by
  refine B_X5_saidOf_0 m Q _ ?_
  unfold csa at h
  by_cases c : 0 ≤ i ∧ i < 60
  · rw [if_pos c] at h
    simp (disch := omega) only [iI_lit, iI_ofNat, iI_neg, iI_add, iI_sub, iI_mul, iI_lt, iI_le, iI_eq, iI_in, iI_cl]
    exact ⟨fun z => by omega, fun _ => ⟨fun z => by omega, fun _ => ⟨by omega, h⟩⟩⟩
  · rw [if_neg c] at h
    simp (disch := omega) only [iI_lit, iI_ofNat, iI_neg, iI_add, iI_sub, iI_mul, iI_lt, iI_le, iI_eq, iI_in, iI_cl]
    exact ⟨fun _ => h, fun _ => ⟨fun _ => h, fun z => by omega⟩⟩
theorem S_putFire (m : am_M) (Q : Option Value → am_M → Prop) (i : Nat) (hi : i < 60) (v : Int32) (h : Q none (am_pI m 36 i v)) : am_WP YL 61 0 0 0 [some (.ref 34), some (.int (iI (i : Int))), some (.int v)] [] m Q := by
  refine B_X5_putFire_0 m Q _ _ ?_
  simp (disch := omega) only [iI_lit, iI_ofNat, iI_neg, iI_add, iI_sub, iI_mul, iI_lt, iI_le, iI_eq, iI_in, iI_cl, Int.toNat_natCast]
  exact ⟨fun z => by omega, fun _ => ⟨fun z => by omega, fun _ => ⟨by omega, h⟩⟩⟩
theorem S_say (m : am_M) (Q : Option Value → am_M → Prop) (i : Nat) (hi : i < 60) (v : Int32) (h : Q none (am_pI m 37 i v)) : am_WP YL 63 0 0 0 [some (.ref 34), some (.int (iI (i : Int))), some (.int v)] [] m Q := by
  refine B_X5_say_0 m Q _ _ ?_
  simp (disch := omega) only [iI_lit, iI_ofNat, iI_neg, iI_add, iI_sub, iI_mul, iI_lt, iI_le, iI_eq, iI_in, iI_cl, Int.toNat_natCast]
  exact ⟨fun z => by omega, fun _ => ⟨fun z => by omega, fun _ => ⟨by omega, h⟩⟩⟩
theorem S_firstFree (m : am_M) (Q : Option Value → am_M → Prop) (hB : BK m) (h : Q (some (.int (iI (kth (fun i => (am_gR YL m 35 i).isNone) 0 60)))) m) : am_WP YL 56 0 0 0 [some (.ref 34), none] [] m Q := by
  refine B_X5_firstFree_0 m Q ?_
  have := lp (N := 60) (W := fun k (_ : Unit) => am_WP YL 56 0 0 2 [some (.ref 34), some (.int (iI (k : Int)))] [] m Q) (fun k _ => fb_ct (fun i => (am_gR YL m 35 i).isNone) k = 0) (s := ()) rfl ?_ ?_
  · exact this
  · intro k _ hk hI ih
    have ih := ih ()
    rw [fb_ct_succ, hI] at ih
    refine B_X5_firstFree_2 m Q _ ?_
    simp (disch := omega) only [iI_lit, iI_ofNat, iI_neg, iI_add, iI_sub, iI_mul, iI_lt, iI_le, iI_eq, iI_in, iI_cl, Int.toNat_natCast]
    refine ⟨fun z => by omega, fun _ => ⟨by omega, ?_⟩⟩
    cases hr : am_gR YL m 35 k with
    | none =>
      rw [kth_at (p := fun i => (am_gR YL m 35 i).isNone) (q := k) (by show (am_gR YL m 35 k).isNone = true; rw [hr]; rfl) (by rw [hI]; rfl) hk] at h
      exact B_X5_firstFree_14n m Q _ h
    | some e =>
      rw [hr] at ih
      refine B_X5_firstFree_14r m Q _ e (hB k hk e hr).1 ?_
      rw [iI_i1]
      exact ih rfl
  · intro _ hI
    refine B_X5_firstFree_2 m Q _ ⟨fun _ => ?_, fun z => absurd (show (60 : Int32) ≤ iI ((60 : Nat) : Int) by decide) z⟩
    rw [kth_no (fun q hq h1 h2 => by
      have := fb_ct_zero.mp hI q hq
      rw [h1] at this
      cases this)] at h
    exact h
def oI (o : Option Nat) : Int := match o with
  | none => 0
  | some _ => 1
theorem S_bputE (m : am_M) (Q : Option Value → am_M → Prop) (hB : BK m) (i : Nat) (hi : i < 60) (e : Nat) (he : sw_en m e) (u : Int) (hu : m.1 34 3 = iI u) (h : Q none (am_pR (am_pI m 34 3 (iI (u + (1 - oI (am_gR YL m 35 i))))) 35 i (some e))) : am_WP YL 59 0 0 0 [some (.ref 34), some (.int (iI (i : Int))), some (.ref e)] [] m Q := by
  refine B_X5_put_0 m Q _ e he ?_
  simp (disch := omega) only [iI_lit, iI_ofNat, iI_neg, iI_add, iI_sub, iI_mul, iI_lt, iI_le, iI_eq, iI_in, iI_cl, Int.toNat_natCast]
  refine ⟨fun z => by omega, fun _ => ⟨fun z => by omega, fun _ => ⟨by omega, ?_⟩⟩⟩
  rw [hu]
  cases hr : am_gR YL m 35 i with
  | none =>
    refine B_X5_put_30n m Q _ e he _ _ ?_
    rw [hr] at h
    simp (disch := omega) only [iI_lit, iI_ofNat, iI_neg, iI_add, iI_sub, iI_mul, iI_lt, iI_le, iI_eq, iI_in, iI_cl, Int.toNat_natCast]
    exact ⟨by omega, h⟩
  | some e0 =>
    refine B_X5_put_30r m Q _ e he _ _ e0 (hB i hi e0 hr).1 ?_
    rw [hr] at h
    simp (disch := omega) only [iI_lit, iI_ofNat, iI_neg, iI_add, iI_sub, iI_mul, iI_lt, iI_le, iI_eq, iI_in, iI_cl, Int.toNat_natCast]
    exact ⟨by omega, h⟩
theorem S_bputN (m : am_M) (Q : Option Value → am_M → Prop) (hB : BK m) (i : Nat) (hi : i < 60) (u : Int) (hu : m.1 34 3 = iI u) (h : Q none (am_pR (am_pI m 34 3 (iI (u + (0 - oI (am_gR YL m 35 i))))) 35 i none)) : am_WP YL 59 0 0 0 [some (.ref 34), some (.int (iI (i : Int))), some .null] [] m Q := by
  refine D_X5_put_0z m Q _ ?_
  simp (disch := omega) only [iI_lit, iI_ofNat, iI_neg, iI_add, iI_sub, iI_mul, iI_lt, iI_le, iI_eq, iI_in, iI_cl, Int.toNat_natCast]
  refine ⟨fun z => by omega, fun _ => ⟨fun z => by omega, fun _ => ⟨by omega, ?_⟩⟩⟩
  rw [hu]
  cases hr : am_gR YL m 35 i with
  | none =>
    refine D_X5_put_30zn m Q _ _ _ ?_
    rw [hr] at h
    simp (disch := omega) only [iI_lit, iI_ofNat, iI_neg, iI_add, iI_sub, iI_mul, iI_lt, iI_le, iI_eq, iI_in, iI_cl, Int.toNat_natCast]
    exact ⟨by omega, h⟩
  | some e0 =>
    refine D_X5_put_30zr m Q _ _ _ e0 (hB i hi e0 hr).1 ?_
    rw [hr] at h
    simp (disch := omega) only [iI_lit, iI_ofNat, iI_neg, iI_add, iI_sub, iI_mul, iI_lt, iI_le, iI_eq, iI_in, iI_cl, Int.toNat_natCast]
    exact ⟨by omega, h⟩
theorem S_bTake (m : am_M) (Q : Option Value → am_M → Prop) (h : ∀ m1, Ar [34, 35, 36, 37] m m1 → m1.1 34 3 = 0 → (∀ i, i < 60 → am_gR YL m1 35 i = none) → (∀ i, i < 60 → m1.1 36 i = -1) → (∀ i, i < 60 → m1.1 37 i = -1) → Q none m1) : am_WP YL 54 0 0 0 [some (.ref 34), none] [] m Q := by
  refine B_X5_takeAway_0 m Q ?_
  have := lp (N := 60) (W := fun k m1 => am_WP YL 54 0 0 2 [some (.ref 34), some (.int (iI (k : Int)))] [] m1 Q) (fun k m1 => Ar [34, 35, 36, 37] m m1 ∧ ∀ i, i < k → m1.2.2.1 35 i = none) (s := m) ⟨Ar.rf _ m, fun i hi => absurd hi (Nat.not_lt_zero i)⟩ ?_ ?_
  · exact this
  · rintro k m1 hk ⟨f1, b1⟩ ih
    refine B_X5_takeAway_2 m1 Q _ ?_
    simp (disch := omega) only [iI_lit, iI_ofNat, iI_neg, iI_add, iI_sub, iI_mul, iI_lt, iI_le, iI_eq, iI_in, iI_cl, Int.toNat_natCast]
    refine ⟨fun z => by omega, fun _ => ⟨by omega, ih _ ⟨f1.pR (by decide) _ _, ?_⟩⟩⟩
    intro j hj
    rw [am_pR_at]
    by_cases c : j = k
    · rw [if_pos c]
    · rw [if_neg c]; exact b1 j (by omega)
  · rintro m1 ⟨f1, b1⟩
    refine B_X5_takeAway_2 m1 Q _ ⟨fun _ => ?_, fun z => absurd (show (60 : Int32) ≤ iI ((60 : Nat) : Int) by decide) z⟩
    refine S_fillI m1 _ 36 60 rfl rfl (by decide) _ (B_X5_takeAway_29 _ Q (S_fillI _ _ 37 60 rfl rfl (by decide) _ (B_X5_takeAway_37 _ Q ?_)))
    refine h _ (((f1.wI (by decide) _).wI (by decide) _).pI (by decide) _ _) ?_ ?_ ?_ ?_
    · rw [am_pI_at, if_pos rfl]
    · intro i hi
      show (match YL.1 35 i with | some b => some b | none => m1.2.2.1 35 i) = none
      rw [show YL.1 35 i = none from rfl]
      exact b1 i hi
    · intro i hi
      rw [am_pI_ne (by decide), am_wI_ne (by decide), am_wI_at, am_fx_lt hi]
    · intro i hi
      rw [am_pI_ne (by decide), am_wI_at, am_fx_lt hi]
/-! entries -/
theorem S_eSight (m : am_M) (Q : Option Value → am_M → Prop) (e : Nat) (he : sw_en m e) (h : Q (some (.int (bI (!decide (m.1 e 0 = 5))))) m) : am_WP YL 17 0 0 0 [some (.ref e)] [] m Q := by
  refine B_X1_isSighting_0 m Q e he ⟨fun z => ?_, fun z => ?_⟩
  · rw [decide_eq_true z] at h
    exact h
  · rw [decide_eq_false z] at h
    exact h
def ecl (m : am_M) (e o : Nat) : Bool := decide (¬ m.1 e 2 = -1 ∧ m.1 e 2 = m.1 o 2 ∧ m.1 e 1 = m.1 o 1)
theorem S_clash (m : am_M) (Q : Option Value → am_M → Prop) (e o : Nat) (he : sw_en m e) (ho : sw_en m o) (h : Q (some (.int (bI (ecl m e o)))) m) : am_WP YL 18 0 0 0 [some (.ref e), some (.ref o)] [] m Q := by
  unfold ecl at h
  refine B_X1_clashesWith_0 m Q e he o ho ⟨fun z => ?_, fun z => ⟨fun y => ?_, fun y => ⟨fun x => ?_, fun x => ?_⟩⟩⟩
  · rw [decide_eq_false (fun w => w.1 z)] at h
    exact h
  · rw [decide_eq_false (fun w => y w.2.1)] at h
    exact h
  · rw [decide_eq_false (fun w => x w.2.2)] at h
    exact h
  · rw [decide_eq_true ⟨z, y, x⟩] at h
    exact h
