/-! ===== frames of the invariant's pieces ===== -/
theorem Wd.fr {A : List Nat} {m m2 : am_M} (h : Ar A m m2) (hA : ∀ a, a ∈ [5, 6, 8, 110, 111, 112] → a ∉ A) (hW : Wd m) : Wd m2 := by
  have e5 := h.I (hA 5 (by decide))
  have e6 := h.I (hA 6 (by decide))
  have e8 := h.J (hA 8 (by decide))
  have e110 := h.I (hA 110 (by decide))
  have e111 := h.I (hA 111 (by decide))
  have e112 := h.I (hA 112 (by decide))
  have et : ∀ q, mt m2 q = mt m q := fun q => by unfold mt mth; rw [e110]
  obtain ⟨w1, w2, w3, w4, w5⟩ := hW
  refine ⟨?_, ?_, fun q hq => by rw [e8, et]; exact w3 q hq, by rw [e5, e111]; exact w4, by rw [e6, e112]; exact w5⟩
  · unfold WO at w1 ⊢
    rw [e5, e6, e8]
    exact w1
  · unfold MW ML at w2 ⊢
    rw [e110, e111, e112]
    exact ⟨w2.1, w2.2.1, fun k hk z => w2.2.2.1 k hk (by rw [← et]; exact z), w2.2.2.2⟩
theorem core_fr {A : List Nat} {m m2 : am_M} (h : Ar A m m2) (hA : ∀ a, a ∈ [35, 36, 39, 40, 92] → a ∉ A) (E C : Nat) : core m2 E C = core m E C := by
  unfold core
  rw [h.I (hA 36 (by decide)), h.I (hA 39 (by decide)), h.I (hA 40 (by decide)), h.I (hA 92 (by decide)), show (fun i => am_gR YL m2 35 i) = fun i => am_gR YL m 35 i from funext fun i => h.R (hA 35 (by decide)) i]
theorem RN.fr91 {A : List Nat} {m m2 : am_M} (h : Ar A m m2) (hn : 130 ≤ am_n m) (hA : ∀ a, a ∈ A → a < 133) (hK : ∀ a, a ∈ [8, 34, 35, 36, 38, 39, 40, 41, 92, 115, 116] → a ∉ A) (g91 : m2.1 91 6 = m.1 91 6) (hP : ∀ f, f < 20 → 48 + 2 * f ∉ A) {E C : Nat} (hR : RN m E C) : RN m2 E C := by
  have hB := hR.bk
  have hE := hR.1.ever.1
  have e36 := h.I (hK 36 (by decide))
  have rc : RC m2 (core m2 E C) (m2.1 115) (m2.2.1 116) := by
    rw [core_fr h (fun a ha => hK a (by simp only [List.mem_cons, List.not_mem_nil, or_false] at ha ⊢; omega)), h.I (hK 115 (by decide)), h.J (hK 116 (by decide))]
    exact RC.gr (Gr.ar h) hn hA (hK 8 (by decide)) (show RC m (core m E C) (m.1 115) (m.2.1 116) from hR.1)
  have ec : ∀ f, cnt m2 f = cnt m f := fun f => by unfold cnt; rw [e36]
  have ep : ∀ f k q, pa m2 f k q = pa m f k q := fun f k q => by
    induction k with
    | zero => rfl
    | succ k ih =>
      show (pa m2 f k q && (!decide (m2.1 36 k = f) || has m2 k q)) = (pa m f k q && (!decide (m.1 36 k = f) || has m k q))
      rw [ih, e36, has_fr h hA (hK 35 (by decide)) hB]
  refine ⟨rc, by rw [h.I (hK 38 (by decide))]; exact hR.2.1, by rw [g91]; exact hR.2.2.1, ?_, fun f hf => ?_, fun f hf q hq => ?_⟩
  · rw [h.I (hK 34 (by decide)), hR.2.2.2.1, show (fun i => (am_gR YL m2 35 i).isSome) = fun i => (am_gR YL m 35 i).isSome from funext fun i => by rw [h.R (hK 35 (by decide))]]
  · rw [h.I (hK 41 (by decide)), ec]
    exact hR.2.2.2.2.1 f hf
  · rw [h.J (hP f (by omega))]
    unfold pat
    rw [ec, ep]
    exact hR.2.2.2.2.2 f hf q hq
theorem RN.fr {A : List Nat} {m m2 : am_M} (h : Ar A m m2) (hn : 130 ≤ am_n m) (hA : ∀ a, a ∈ A → a < 133) (hK : ∀ a, a ∈ [8, 34, 35, 36, 38, 39, 40, 41, 91, 92, 115, 116] → a ∉ A) (hP : ∀ f, f < 20 → 48 + 2 * f ∉ A) {E C : Nat} (hR : RN m E C) : RN m2 E C := hR.fr91 h hn hA (fun a ha => hK a (by revert a; decide)) (by rw [h.I (hK 91 (by decide))]) hP
