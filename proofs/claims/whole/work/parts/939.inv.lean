/-! ===== the invariant ===== -/
theorem cbl_fe {m m2 : am_M} (e8 : m2.2.1 8 = m.2.1 8) (e5 : m2.1 5 = m.1 5) (e10 : m2.1 10 = m.1 10) (e11 : m2.1 11 = m.1 11) : ∀ n q, cbl m2 n q = cbl m n q
  | 0, q => by show wb (m2.2.1 8) q = wb (m.2.1 8) q; rw [e8]
  | n + 1, q => by
    show (cbl m2 n q && !tsee m2 n q) = (cbl m n q && !tsee m n q)
    rw [cbl_fe e8 e5 e10 e11 n q, tsee_fr e8 e5 e10 e11]
theorem TI.fr {m m2 : am_M} (e5 : m2.1 5 = m.1 5) (e8 : m2.2.1 8 = m.2.1 8) (e9 : m2.1 9 = m.1 9) (e10 : m2.1 10 = m.1 10) (e11 : m2.1 11 = m.1 11) (e12 : m2.1 12 = m.1 12) (e17 : m2.2.1 17 = m.2.1 17) (eS : ∀ t, t < 8 → m2.2.1 (19 + 2 * t) = m.2.1 (19 + 2 * t)) {n : Nat} (h : TI m n) : TI m2 n := by
  obtain ⟨h1, h2, h3, h4⟩ := h
  have eb := cbl_fe e8 e5 e10 e11
  refine ⟨?_, fun t ht hz q hq => ?_, fun hz q hq => ?_, fun hz => ?_⟩
  · unfold tw_ok at h1 ⊢
    rw [e9, e10, e11]
    exact h1
  · rw [e12] at hz
    rw [eS t (by have := h1.1; omega), tsee_fr e8 e5 e10 e11]
    exact h2 t ht hz q hq
  · rw [e9] at hz
    rw [e17, eb]
    exact h3 hz q hq
  · rw [e9] at hz ⊢
    have e : cbest m2 n = cbest m n := by
      unfold cbest
      rw [e8]
      have : cnew m2 n = cnew m n := by
        funext q
        unfold cnew
        exact fb_ct_cong (fun k _ => by rw [eb, cf_fr e8 e5])
      rw [this]
    rw [e]
    exact h4 hz
theorem Tw.fr {m m2 : am_M} (e5 : m2.1 5 = m.1 5) (e8 : m2.2.1 8 = m.2.1 8) (e9 : m2.1 9 = m.1 9) (e10 : m2.1 10 = m.1 10) (e11 : m2.1 11 = m.1 11) (e12 : m2.1 12 = m.1 12) (e17 : m2.2.1 17 = m.2.1 17) (eS : ∀ t, t < 8 → m2.2.1 (19 + 2 * t) = m.2.1 (19 + 2 * t)) (e113 : m2.1 113 = m.1 113) (e114 : m2.1 114 = m.1 114) (e95 : m2.1 109 5 = m.1 109 5) {n : Nat} (h : Tw m n) : Tw m2 n := by
  refine ⟨h.1.fr e5 e8 e9 e10 e11 e12 e17 eS, ?_, fun t ht => by rw [e10, e11, e113, e114]; exact h.2.2 t ht⟩
  have := h.2.1
  unfold mtw at this ⊢
  rw [e95, e113, e114]
  exact this
/-- class and reference hold the same -/
def Inv (m : am_M) : Prop := ∃ n E C tp sz lt : Nat, Wd m ∧ LK m ∧ Tw m n ∧ RN m E C ∧ WC m ∧ (∀ f, f < 20 → m.1 93 f = m.1 126 f) ∧ (∀ i, i < 60 → m.1 37 i = m.1 132 i) ∧ 130 ≤ am_n m ∧ Hist m tp sz lt (core m E C)
