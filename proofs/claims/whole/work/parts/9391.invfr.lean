/-! ===== what leaves the invariant as it is ===== -/
theorem WC.fe {m m2 : am_M} (e5 : m2.1 5 = m.1 5) (e6 : m2.1 6 = m.1 6) (e8 : m2.2.1 8 = m.2.1 8) (e87 : m2.1 87 = m.1 87) (e88 : m2.1 88 = m.1 88) (e90 : m2.1 90 = m.1 90) (h : WC m) : WC m2 := by
  refine ⟨?_, fun g hg hz => ?_⟩
  · unfold wz
    rw [e90]
    exact h.1
  · rw [e87] at hz
    have hw := h.2 g hg hz
    unfold wtab LB at hw ⊢
    rw [show ced m2 = ced m from funext fun a => funext fun b => ced_fr e8 a b, show cw m2 = cw m from funext fun a => funext fun b => cw_fr e5 e6 a b, show lvt m2 = lvt m from funext fun q => by unfold lvt lv; rw [e88], e88]
    exact hw
def KK : List Nat := [0, 1, 5, 6, 8, 9, 10, 11, 12, 17, 34, 35, 36, 38, 39, 40, 41, 87, 88, 90, 91, 92, 97, 98, 99, 100, 101, 110, 111, 112, 113, 114, 115, 116, 117, 118]
theorem Inv.fr {A : List Nat} {m m2 : am_M} (h : Ar A m m2) (hA : ∀ a, a ∈ A → a < 133) (hK : ∀ a, a ∈ KK → a ∉ A) (hP : ∀ f, f < 20 → 48 + 2 * f ∉ A) (hS : ∀ t, t < 8 → 19 + 2 * t ∉ A) (g5 : m2.1 109 5 = m.1 109 5) (g13 : m2.1 109 13 = m.1 109 13) (g14 : m2.1 109 14 = m.1 109 14) (g93 : (∀ f, f < 20 → m.1 93 f = m.1 126 f) → ∀ f, f < 20 → m2.1 93 f = m2.1 126 f) (g37 : (∀ i, i < 60 → m.1 37 i = m.1 132 i) → ∀ i, i < 60 → m2.1 37 i = m2.1 132 i) (hI : Inv m) : Inv m2 := by
  obtain ⟨n, E, C, tp, sz, lt, i1, i2, i3, i4, i5, i6, i7, i8, i9⟩ := hI
  have I := fun a (ha : a ∈ KK) => h.I (hK a ha)
  have J := fun a (ha : a ∈ KK) => h.J (hK a ha)
  refine ⟨n, E, C, tp, sz, lt, i1.fr h (fun a ha => hK a (by revert a; decide)), ?_, i3.fr (I 5 (by decide)) (J 8 (by decide)) (I 9 (by decide)) (I 10 (by decide)) (I 11 (by decide)) (I 12 (by decide)) (J 17 (by decide)) (fun t ht => h.J (hS t ht)) (I 113 (by decide)) (I 114 (by decide)) g5, i4.fr h i8 hA (fun a ha => hK a (by revert a; decide)) hP, i5.fe (I 5 (by decide)) (I 6 (by decide)) (J 8 (by decide)) (I 87 (by decide)) (I 88 (by decide)) (I 90 (by decide)), g93 i6, g37 i7, by rw [h.n]; exact i8, ?_⟩
  · unfold LK at i2 ⊢
    rw [I 0 (by decide), I 1 (by decide)]
    exact i2
  · rw [core_fr h (fun a ha => hK a (by revert a; decide))]
    exact i9.fr i8 (I 97 (by decide)) (I 98 (by decide)) (I 99 (by decide)) (I 100 (by decide)) (fun j => h.R (hK 101 (by decide)) j) (I 117 (by decide)) (J 118 (by decide)) g13 g14 (Gr.ar h) hA (hK 8 (by decide))
theorem Inv.claim {m : am_M} (hI : Inv m) (i : Nat) (v : Int32) : Inv (am_pI (am_pI m 37 i v) 132 i v) := by
  have h : Ar [37, 132] m (am_pI (am_pI m 37 i v) 132 i v) := ((Ar.rf _ m).pI (by decide) _ _).pI (by decide) _ _
  refine hI.fr h (by decide) (by decide) (fun f hf z => by simp only [List.mem_cons, List.not_mem_nil, or_false] at z; omega) (fun t ht z => by simp only [List.mem_cons, List.not_mem_nil, or_false] at z; omega) (by rw [h.I (by decide)]) (by rw [h.I (by decide)]) (by rw [h.I (by decide)]) (fun k f hf => by rw [h.I (by decide), h.I (by decide)]; exact k f hf) (fun k j hj => ?_)
  rw [am_pI_ne (by decide), am_pI_at, am_pI_at, am_pI_ne (by decide), k j hj]
def KG91 : List Nat := [0, 1, 5, 6, 8, 34, 35, 36, 38, 39, 40, 41, 92, 97, 98, 99, 100, 101, 110, 111, 112, 115, 116, 117, 118]
/-- caches may change, where they stay true -/
theorem Inv.fg91 {A : List Nat} {m m2 : am_M} (h : Ar A m m2) (hA : ∀ a, a ∈ A → a < 133) (hK : ∀ a, a ∈ KG91 → a ∉ A) (g91 : m2.1 91 6 = m.1 91 6) (hP : ∀ f, f < 20 → 48 + 2 * f ∉ A) (hT : ∀ n, Tw m n → Tw m2 n) (hC : WC m → WC m2) (g13 : m2.1 109 13 = m.1 109 13) (g14 : m2.1 109 14 = m.1 109 14) (g93 : (∀ f, f < 20 → m.1 93 f = m.1 126 f) → ∀ f, f < 20 → m2.1 93 f = m2.1 126 f) (g37 : (∀ i, i < 60 → m.1 37 i = m.1 132 i) → ∀ i, i < 60 → m2.1 37 i = m2.1 132 i) (hI : Inv m) : Inv m2 := by
  obtain ⟨n, E, C, tp, sz, lt, i1, i2, i3, i4, i5, i6, i7, i8, i9⟩ := hI
  have I := fun a (ha : a ∈ KG91) => h.I (hK a ha)
  have J := fun a (ha : a ∈ KG91) => h.J (hK a ha)
  refine ⟨n, E, C, tp, sz, lt, i1.fr h (fun a ha => hK a (by revert a; decide)), ?_, hT n i3, i4.fr91 h i8 hA (fun a ha => hK a (by revert a; decide)) g91 hP, hC i5, g93 i6, g37 i7, by rw [h.n]; exact i8, ?_⟩
  · unfold LK at i2 ⊢
    rw [I 0 (by decide), I 1 (by decide)]
    exact i2
  · rw [core_fr h (fun a ha => hK a (by revert a; decide))]
    exact i9.fr i8 (I 97 (by decide)) (I 98 (by decide)) (I 99 (by decide)) (I 100 (by decide)) (fun j => h.R (hK 101 (by decide)) j) (I 117 (by decide)) (J 118 (by decide)) g13 g14 (Gr.ar h) hA (hK 8 (by decide))
def KG : List Nat := [0, 1, 5, 6, 8, 34, 35, 36, 38, 39, 40, 41, 91, 92, 97, 98, 99, 100, 101, 110, 111, 112, 115, 116, 117, 118]
theorem Inv.fg {A : List Nat} {m m2 : am_M} (h : Ar A m m2) (hA : ∀ a, a ∈ A → a < 133) (hK : ∀ a, a ∈ KG → a ∉ A) (hP : ∀ f, f < 20 → 48 + 2 * f ∉ A) (hT : ∀ n, Tw m n → Tw m2 n) (hC : WC m → WC m2) (g13 : m2.1 109 13 = m.1 109 13) (g14 : m2.1 109 14 = m.1 109 14) (g93 : (∀ f, f < 20 → m.1 93 f = m.1 126 f) → ∀ f, f < 20 → m2.1 93 f = m2.1 126 f) (g37 : (∀ i, i < 60 → m.1 37 i = m.1 132 i) → ∀ i, i < 60 → m2.1 37 i = m2.1 132 i) (hI : Inv m) : Inv m2 := hI.fg91 h hA (fun a ha => hK a (by revert a; decide)) (by rw [h.I (hK 91 (by decide))]) hP hT hC g13 g14 g93 g37
