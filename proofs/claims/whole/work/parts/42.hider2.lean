/-! ===== Wood.firstHider ===== -/
theorem ln_pb {n : Nat} (h : n ≤ 15) : 1 ≤ ln_p n ∧ ln_p n ≤ 15 := by
  refine ⟨ln_p1 n, ?_⟩
  unfold ln_p
  split <;> omega
theorem ln_wb {R C : Nat} (hR : R ≤ 15) (hC : C ≤ 15) : 1 ≤ ln_w R C ∧ ln_w R C ≤ 450 := by
  have a := ln_pb hR
  have b := ln_pb hC
  have h1 : (ln_p C * ln_p R).natAbs ≤ 15 * 15 := pbd (by omega) (by omega)
  have h2 : 1 * ln_p R ≤ ln_p C * ln_p R := ln_le a.1 b.1
  have e : ln_w R C = 2 * (ln_p C * ln_p R) := Int.mul_assoc 2 _ _
  omega
theorem ln_bb {R C i : Nat} (hR : R ≤ 15) (hC : C ≤ 15) : 0 ≤ ln_b (ln_p C) (ln_w R C) R i ∧ ln_b (ln_p C) (ln_w R C) R i ≤ 450 := by
  have w := ln_wb hR hC
  by_cases c : i < R
  · have h1 := ln_bw (ln_p1 C) (show ln_w R C = 2 * ln_p C * ln_p R from rfl) c
    have h2 := ln_le (ln_p1 C) (show (0 : Int) ≤ 2 * (i : Int) + 1 by omega)
    refine ⟨?_, by omega⟩
    unfold ln_b
    rw [if_pos c]
    omega
  · unfold ln_b
    rw [if_neg c]
    omega
theorem ln_bb2 {R C j : Nat} (hR : R ≤ 15) (hC : C ≤ 15) : 0 ≤ ln_b (ln_p R) (ln_w R C) C j ∧ ln_b (ln_p R) (ln_w R C) C j ≤ 450 := by
  have h := ln_bb (i := j) hC hR
  rw [show ln_w C R = ln_w R C by rw [ln_w2]; rfl] at h
  exact h
theorem ln_lb {R C i j : Nat} (h : ln_lo R C i j < ln_hi R C i j) (hR : R ≤ 15) (hC : C ≤ 15) : 0 ≤ ln_lo R C i j ∧ ln_lo R C i j ≤ 450 ∧ 0 ≤ ln_hi R C i j ∧ ln_hi R C i j ≤ 450 := by
  have w := ln_wb hR hC
  have hw := ln_hw (R := R) (C := C) (i := i) (j := j)
  have z : 0 ≤ ln_lo R C i j := by
    by_cases c : ln_lo R C i j < 0
    · exfalso
      have f : ∀ p i, 1 ≤ p → 0 ≤ ln_l p i := by
        intro p i hp
        unfold ln_l
        by_cases c : i = 0
        · rw [if_pos c]; decide
        · rw [if_neg c]
          have := ln_le (p := p) (a := 0) (b := 2 * (i : Int) - 1) hp (by omega)
          omega
      have a := f (ln_p C) i (ln_p1 C)
      have b := f (ln_p R) j (ln_p1 R)
      unfold ln_lo at c
      split at c <;> omega
    · omega
  omega
def hd_q (f t i j : Nat) : Int := 16 * ((f : Int) / 16 + (if (t : Int) / 16 - (f : Int) / 16 < 0 then - (i : Int) else (i : Int))) + (f : Int) % 16 + (if (t : Int) % 16 - (f : Int) % 16 < 0 then - (j : Int) else (j : Int))
def hd_v (f t : Nat) : Option (Nat × Nat) → Int
  | none => -1
  | some (i, j) => hd_q f t i j
def hd_R (f t : Nat) : Nat := ((t : Int) / 16 - (f : Int) / 16).natAbs
def hd_C (f t : Nat) : Nat := ((t : Int) % 16 - (f : Int) % 16).natAbs
theorem hd_qb {f t i j : Nat} (hf : f < 256) (ht : t < 256) (hi : i ≤ hd_R f t) (hj : j ≤ hd_C f t) : 0 ≤ hd_q f t i j ∧ hd_q f t i j < 256 ∧ (hd_q f t i j = (t : Int) ↔ i = hd_R f t ∧ j = hd_C f t) := by
  unfold hd_q hd_R hd_C at *
  split <;> split <;> omega
/-- does a square of the line hide -/
def hd_h (th : Nat → Bool) (hg : Nat → Int) (f t : Nat) (eye rise : Int) (i j : Nat) : Bool := !th (hd_q f t i j).toNat || decide (eye * ln_w (hd_R f t) (hd_C f t) + rise * (if rise < 0 then ln_hi (hd_R f t) (hd_C f t) i j else ln_lo (hd_R f t) (hd_C f t) i j) ≤ hg (hd_q f t i j).toNat * ln_w (hd_R f t) (hd_C f t))
abbrev hd_L (f t : Nat) (eye rise i j lo n : Int) : am_L := [some (.ref 4), some (.int (iI (f : Int))), none, some (.int (iI (t : Int))), some (.int (iI ((t : Int) / 16 - (f : Int) / 16))), some (.int (iI ((t : Int) % 16 - (f : Int) % 16))), some (.int (iI (hd_R f t : Int))), some (.int (iI (hd_C f t : Int))), some (.int (iI (ln_p (hd_C f t)))), some (.int (iI (ln_p (hd_R f t)))), some (.int (iI (ln_w (hd_R f t) (hd_C f t)))), some (.int (iI eye)), some (.int (iI rise)), some (.int (iI i)), some (.int (iI j)), some (.int (iI lo)), some (.int (iI n)), none, none, none, none, none]
theorem S_fhLoop (m : am_M) (Q : Option Value → am_M → Prop) (f t : Nat) (hf : f < 256) (ht : t < 256) (hne : f ≠ t) (eye rise : Int) (he : eye.natAbs ≤ 3200) (hr : rise.natAbs ≤ 6400) (hh : ∀ k, k < 256 → ((m.1 5 k).toInt).natAbs ≤ 3000)
    (h : ∀ res, hd_is (hd_R f t) (hd_C f t) (hd_h (wb (m.2.1 8)) (fun k => (m.1 5 k).toInt) f t eye rise) res → Q (some (.int (iI (hd_v f t res)))) m) :
    ∀ (d n i j : Nat), hd_R f t + hd_C f t - (i + j) = d → n ≤ i + j → (n = 0 → i = 0 ∧ j = 0) → i ≤ hd_R f t → j ≤ hd_C f t → ln_lo (hd_R f t) (hd_C f t) i j < ln_hi (hd_R f t) (hd_C f t) i j → hd_done (hd_R f t) (hd_C f t) (hd_h (wb (m.2.1 8)) (fun k => (m.1 5 k).toInt) f t eye rise) (ln_lo (hd_R f t) (hd_C f t) i j) →
      am_WP YL 109 0 0 90 (hd_L f t eye rise i j (ln_lo (hd_R f t) (hd_C f t) i j) n) [] m Q := by
  intro d
  induction d using Nat.strongRecOn with
  | ind d ih =>
  intro n i j hd hn h0 hi hj hl hdone
  have hR : hd_R f t ≤ 15 := by unfold hd_R; omega
  have hC : hd_C f t ≤ 15 := by unfold hd_C; omega
  have hRC : 0 < hd_R f t ∨ 0 < hd_C f t := by unfold hd_R hd_C; omega
  have pR := ln_pb hR
  have pC := ln_pb hC
  have ww := ln_wb hR hC
  have bR := ln_bb (i := i) hR hC
  have bC := ln_bb2 (j := j) hR hC
  have bl := ln_lb hl hR hC
  have hq := hd_qb hf ht hi hj
  generalize hRe : hd_R f t = R at *
  generalize hCe : hd_C f t = C at *
  -- the way on
  have go : hd_done R C (hd_h (wb (m.2.1 8)) (fun k => (m.1 5 k).toInt) f t eye rise) (ln_hi R C i j) → (i < R ∨ j < C) → am_WP YL 109 0 0 258 [some (.ref 4), some (.int (iI (f : Int))), none, some (.int (iI (t : Int))), some (.int (iI ((t : Int) / 16 - (f : Int) / 16))), some (.int (iI ((t : Int) % 16 - (f : Int) % 16))), some (.int (iI (R : Int))), some (.int (iI (C : Int))), some (.int (iI (ln_p C))), some (.int (iI (ln_p R))), some (.int (iI (ln_w R C))), some (.int (iI eye)), some (.int (iI rise)), some (.int (iI (i : Int))), some (.int (iI (j : Int))), none, some (.int (iI (n : Int))), some (.int (iI (ln_b (ln_p C) (ln_w R C) R i))), some (.int (iI (ln_b (ln_p R) (ln_w R C) C j))), some (.int (iI (ln_hi R C i j))), none, none] [] m Q := by
    intro g1 g2
    have st := ln_step hi hj g2 hl
    have key : am_WP YL 109 0 0 90 (hd_L f t eye rise (ln_i R C i j : Nat) (ln_j R C i j : Nat) (ln_hi R C i j) ((n + 1 : Nat) : Int)) [] m Q := by
      have := ih (R + C - (ln_i R C i j + ln_j R C i j)) (by omega) (n + 1) (ln_i R C i j) (ln_j R C i j) rfl (by omega) (fun z => by omega) st.1 st.2.1 st.2.2.2.2 (by rw [st.2.2.2.1]; exact g1)
      rw [st.2.2.2.1] at this
      exact this
    have k3 : ∀ x y : Int, x = (ln_i R C i j : Nat) → (j : Int) + y = (ln_j R C i j : Nat) → am_WP YL 109 0 0 303 [some (.ref 4), some (.int (iI (f : Int))), none, some (.int (iI (t : Int))), some (.int (iI ((t : Int) / 16 - (f : Int) / 16))), some (.int (iI ((t : Int) % 16 - (f : Int) % 16))), some (.int (iI (R : Int))), some (.int (iI (C : Int))), some (.int (iI (ln_p C))), some (.int (iI (ln_p R))), some (.int (iI (ln_w R C))), some (.int (iI eye)), some (.int (iI rise)), some (.int (iI x)), none, none, some (.int (iI (n : Int))), none, none, some (.int (iI (ln_hi R C i j))), none, none] [.int (iI y), .int (iI (j : Int))] m Q := by
      intro x y hx hy
      refine B_X9_firstHider_303 m Q _ _ _ _ _ _ _ _ _ _ _ _ _ _ _ _ ?_
      rw [iI_s, iI_add, hx, hy]
      subst hRe hCe
      exact key
    have k2 : ∀ x : Int, (i : Int) + x = (ln_i R C i j : Nat) → am_WP YL 109 0 0 279 [some (.ref 4), some (.int (iI (f : Int))), none, some (.int (iI (t : Int))), some (.int (iI ((t : Int) / 16 - (f : Int) / 16))), some (.int (iI ((t : Int) % 16 - (f : Int) % 16))), some (.int (iI (R : Int))), some (.int (iI (C : Int))), some (.int (iI (ln_p C))), some (.int (iI (ln_p R))), some (.int (iI (ln_w R C))), some (.int (iI eye)), some (.int (iI rise)), none, some (.int (iI (j : Int))), none, some (.int (iI (n : Int))), none, some (.int (iI (ln_b (ln_p R) (ln_w R C) C j))), some (.int (iI (ln_hi R C i j))), none, none] [.int (iI x), .int (iI (i : Int))] m Q := by
      intro x hx
      refine B_X9_firstHider_279 m Q _ _ _ _ _ _ _ _ _ _ _ _ _ _ _ _ _ ?_
      simp (disch := omega) only [iI_lit, iI_add, iI_eq, iI_le]
      unfold ln_j at k3
      refine ⟨fun z => k3 _ 0 hx (by rw [if_neg (fun q => z q.1)]; omega), fun z => ⟨fun y => k3 _ 0 hx (by rw [if_neg (by omega)]; omega), fun y => k3 _ 1 hx (by rw [if_pos ⟨z, by omega⟩]; omega)⟩⟩
    refine B_X9_firstHider_258 m Q _ _ _ _ _ _ _ _ _ _ _ _ _ _ _ _ _ ?_
    simp (disch := omega) only [iI_lit, iI_eq, iI_le]
    unfold ln_i at k2
    refine ⟨fun z => k2 0 (by rw [if_neg (fun q => z q.1)]; omega), fun z => ⟨fun y => k2 0 (by rw [if_neg (by omega)]; omega), fun y => k2 1 (by rw [if_pos ⟨z, by omega⟩]; omega)⟩⟩
  have hk : hd_q f t i j ≠ (t : Int) → i < R ∨ j < C := by
    intro z
    by_cases c : i = R ∧ j = C
    · exact absurd (hq.2.2.mpr c) z
    · omega
  obtain ⟨k, hke⟩ : ∃ k : Nat, hd_q f t i j = (k : Int) := ⟨(hd_q f t i j).toNat, by omega⟩
  have hkb : k < 256 := by omega
  have hdef : hd_h (wb (m.2.1 8)) (fun k => (m.1 5 k).toInt) f t eye rise i j = (!wb (m.2.1 8) k || decide (eye * ln_w R C + rise * (if rise < 0 then ln_hi R C i j else ln_lo R C i j) ≤ (m.1 5 k).toInt * ln_w R C)) := by
    unfold hd_h
    rw [hRe, hCe, hke, Int.toNat_natCast]
  have pw1 := pbd he (show (ln_w R C).natAbs ≤ 450 by omega)
  have pw2 := pbd (hh k hkb) (show (ln_w R C).natAbs ≤ 450 by omega)
  have k225 : 0 < n → hd_q f t i j ≠ (t : Int) → ∀ x : Int, x = (if rise < 0 then ln_hi R C i j else ln_lo R C i j) → am_WP YL 109 0 0 225 [some (.ref 4), some (.int (iI (f : Int))), none, some (.int (iI (t : Int))), some (.int (iI ((t : Int) / 16 - (f : Int) / 16))), some (.int (iI ((t : Int) % 16 - (f : Int) % 16))), some (.int (iI (R : Int))), some (.int (iI (C : Int))), some (.int (iI (ln_p C))), some (.int (iI (ln_p R))), some (.int (iI (ln_w R C))), some (.int (iI eye)), some (.int (iI rise)), some (.int (iI (i : Int))), some (.int (iI (j : Int))), none, some (.int (iI (n : Int))), some (.int (iI (ln_b (ln_p C) (ln_w R C) R i))), some (.int (iI (ln_b (ln_p R) (ln_w R C) C j))), some (.int (iI (ln_hi R C i j))), some (.int (iI (k : Int))), none] [.int (iI x), .int (iI rise), .int (iI (eye * ln_w R C))] m Q := by
    intro hn0 hqt x hx
    have hok : hd_ok R C i j := ⟨hi, hj, hl, by omega, hk hqt⟩
    have found : hd_h (wb (m.2.1 8)) (fun k => (m.1 5 k).toInt) f t eye rise i j = true → Q (some (.int (iI (k : Int)))) m := by
      intro z
      have := h (some (i, j)) (hd_found hok z hdone)
      rw [show hd_v f t (some (i, j)) = (k : Int) from hke] at this
      exact this
    have xb : x.natAbs ≤ 450 := by rw [hx]; split <;> omega
    have pw3 := pbd hr xb
    refine B_X9_firstHider_225 m Q _ _ _ _ _ _ _ _ _ _ _ _ _ _ _ _ _ _ _ _ _ (S_has m _ 7 (sq_7 m) k hkb ?_)
    refine B_X9_firstHider_238 m Q _ _ _ _ _ _ _ _ _ _ _ _ _ _ _ _ _ _ _ _ ?_
    rw [bI_0]
    refine ⟨fun z => found ?_, fun z => S_heightOf m _ k hkb ?_⟩
    · rw [hdef, show wb (m.2.1 8) k = false from z]
      rfl
    · have z : wb (m.2.1 8) k = true := by cases hz : wb (m.2.1 8) k; exact absurd hz z; rfl
      refine B_X9_firstHider_247 m Q _ _ _ _ _ _ _ _ _ _ _ _ _ _ _ _ _ _ _ _ ?_
      rw [← iI_self (m.1 5 k)]
      simp (disch := omega) only [iI_mul, iI_add, iI_lt]
      refine ⟨fun y => go (hd_step hi hj hl hdone (fun _ => ?_)) (hk hqt), fun y => found ?_⟩
      · rw [hdef, z, ← hx, decide_eq_false (by omega)]
        rfl
      · rw [hdef, ← hx, decide_eq_true (by omega), Bool.or_true]
  have k195 : 0 < n → ∀ y b : Int, b + y = hd_q f t i j → am_WP YL 109 0 0 195 [some (.ref 4), some (.int (iI (f : Int))), none, some (.int (iI (t : Int))), some (.int (iI ((t : Int) / 16 - (f : Int) / 16))), some (.int (iI ((t : Int) % 16 - (f : Int) % 16))), some (.int (iI (R : Int))), some (.int (iI (C : Int))), some (.int (iI (ln_p C))), some (.int (iI (ln_p R))), some (.int (iI (ln_w R C))), some (.int (iI eye)), some (.int (iI rise)), some (.int (iI (i : Int))), some (.int (iI (j : Int))), some (.int (iI (ln_lo R C i j))), some (.int (iI (n : Int))), some (.int (iI (ln_b (ln_p C) (ln_w R C) R i))), some (.int (iI (ln_b (ln_p R) (ln_w R C) C j))), some (.int (iI (ln_hi R C i j))), none, none] [.int (iI y), .int (iI b)] m Q := by
    intro hn0 y b hy
    refine B_X9_firstHider_195 m Q _ _ _ _ _ _ _ _ _ _ _ _ _ _ _ _ _ _ _ _ ?_
    simp (disch := omega) only [iI_lit, iI_neg, iI_add, iI_mul, iI_eq, iI_le]
    rw [hy, hke]
    refine ⟨fun z => ⟨fun w => k225 hn0 (by omega) _ (by rw [if_neg (by omega)]), fun w => k225 hn0 (by omega) _ (by rw [if_pos (by omega)])⟩, fun z => ?_⟩
    have e := hq.2.2.mp (by omega)
    have hl' := hl
    have hd' := hdone
    rw [e.1, e.2] at hl' hd'
    have := h none (hd_end hl' hd')
    exact this
  have k175 : 0 < n → ∀ x : Int, x = (if (t : Int) / 16 - (f : Int) / 16 < 0 then - (i : Int) else (i : Int)) → am_WP YL 109 0 0 175 [some (.ref 4), some (.int (iI (f : Int))), none, some (.int (iI (t : Int))), some (.int (iI ((t : Int) / 16 - (f : Int) / 16))), some (.int (iI ((t : Int) % 16 - (f : Int) % 16))), some (.int (iI (R : Int))), some (.int (iI (C : Int))), some (.int (iI (ln_p C))), some (.int (iI (ln_p R))), some (.int (iI (ln_w R C))), some (.int (iI eye)), some (.int (iI rise)), some (.int (iI (i : Int))), some (.int (iI (j : Int))), some (.int (iI (ln_lo R C i j))), some (.int (iI (n : Int))), some (.int (iI (ln_b (ln_p C) (ln_w R C) R i))), some (.int (iI (ln_b (ln_p R) (ln_w R C) C j))), some (.int (iI (ln_hi R C i j))), none, none] [.int (iI x), .int (iI ((f : Int) / 16)), .int (iI 16)] m Q := by
    intro hn0 x hx
    refine B_X9_firstHider_175 m Q _ _ _ _ _ _ _ _ _ _ _ _ _ _ _ _ _ _ _ _ _ ?_
    simp (disch := omega) only [iI_lit, iI_neg, iI_add, iI_mul, iI_m15, iI_le]
    unfold hd_q at k195
    rw [← hx] at k195
    refine ⟨fun w => k195 hn0 _ _ (by rw [if_neg (by omega)]), fun w => k195 hn0 _ _ (by rw [if_pos (by omega)])⟩
  have k141 : ∀ y : Int, y = ln_b (ln_p R) (ln_w R C) C j → am_WP YL 109 0 0 141 [some (.ref 4), some (.int (iI (f : Int))), none, some (.int (iI (t : Int))), some (.int (iI ((t : Int) / 16 - (f : Int) / 16))), some (.int (iI ((t : Int) % 16 - (f : Int) % 16))), some (.int (iI (R : Int))), some (.int (iI (C : Int))), some (.int (iI (ln_p C))), some (.int (iI (ln_p R))), some (.int (iI (ln_w R C))), some (.int (iI eye)), some (.int (iI rise)), some (.int (iI (i : Int))), some (.int (iI (j : Int))), some (.int (iI (ln_lo R C i j))), some (.int (iI (n : Int))), some (.int (iI (ln_b (ln_p C) (ln_w R C) R i))), none, none, none, none] [.int (iI y)] m Q := by
    rintro y rfl
    refine B_X9_firstHider_141 m Q _ _ _ _ _ _ _ _ _ _ _ _ _ _ _ _ _ ?_
    simp (disch := omega) only [iI_lit, iI_neg, iI_lt, iI_le, iI_ite, iI_s4]
    refine ⟨fun z => go ?_ ?_, fun z => ⟨fun w => k175 (by omega) _ (by rw [if_neg (by omega)]), fun w => k175 (by omega) _ (by rw [if_pos (by omega)])⟩⟩
    · have := h0 (by omega)
      exact hd_step hi hj hl hdone (fun q => by have := q.2.2.2.1; omega)
    · have := h0 (by omega)
      omega
  have k118 : ∀ x : Int, x = ln_b (ln_p C) (ln_w R C) R i → am_WP YL 109 0 0 118 [some (.ref 4), some (.int (iI (f : Int))), none, some (.int (iI (t : Int))), some (.int (iI ((t : Int) / 16 - (f : Int) / 16))), some (.int (iI ((t : Int) % 16 - (f : Int) % 16))), some (.int (iI (R : Int))), some (.int (iI (C : Int))), some (.int (iI (ln_p C))), some (.int (iI (ln_p R))), some (.int (iI (ln_w R C))), some (.int (iI eye)), some (.int (iI rise)), some (.int (iI (i : Int))), some (.int (iI (j : Int))), some (.int (iI (ln_lo R C i j))), some (.int (iI (n : Int))), none, none, none, none, none] [.int (iI x)] m Q := by
    rintro x rfl
    refine B_X9_firstHider_118 m Q _ _ _ _ _ _ _ _ _ _ _ _ _ _ _ _ ?_
    simp (disch := omega) only [iI_lit, iI_add, iI_mul, iI_le]
    refine ⟨fun z => k141 _ (by unfold ln_b; rw [if_neg (by omega)]), fun z => k141 _ (by unfold ln_b; rw [if_pos (by omega)])⟩
  subst hRe hCe
  refine B_X9_firstHider_90 m Q _ _ _ _ _ _ _ _ _ _ _ _ _ _ _ ?_
  simp (disch := omega) only [iI_lit, iI_add, iI_mul, iI_le]
  refine ⟨fun z => by omega, fun _ => ⟨fun z => k118 _ (by unfold ln_b; rw [if_neg (by omega)]), fun z => k118 _ (by unfold ln_b; rw [if_pos (by omega)])⟩⟩
theorem hd_same {f t : Nat} (h : f = t) : hd_R f t = 0 ∧ hd_C f t = 0 := by
  subst h
  unfold hd_R hd_C
  omega
theorem S_firstHider (m : am_M) (Q : Option Value → am_M → Prop) (f t : Nat) (hf : f < 256) (ht : t < 256) (up : Int) (hu : up.natAbs ≤ 100) (hh : ∀ k, k < 256 → ((m.1 5 k).toInt).natAbs ≤ 3000)
    (h : ∀ res, hd_is (hd_R f t) (hd_C f t) (hd_h (wb (m.2.1 8)) (fun k => (m.1 5 k).toInt) f t ((m.1 5 f).toInt + up) ((m.1 5 t).toInt - ((m.1 5 f).toInt + up))) res → Q (some (.int (iI (hd_v f t res)))) m) :
    am_WP YL 109 0 0 0 [some (.ref 4), some (.int (iI (f : Int))), some (.int (iI up)), some (.int (iI (t : Int))), none, none, none, none, none, none, none, none, none, none, none, none, none, none, none, none, none, none] [] m Q := by
  have h5 := hh f hf
  have h6 := hh t ht
  have hR : hd_R f t ≤ 15 := by unfold hd_R; omega
  have hC : hd_C f t ≤ 15 := by unfold hd_C; omega
  have ww := ln_wb hR hC
  refine B_X9_firstHider_0 m Q _ _ _ ?_
  simp (disch := omega) only [iI_lit, iI_s4, iI_m15, iI_sub]
  refine B_X9_firstHider_20 m Q _ _ _ _ _ ?_
  simp (disch := omega) only [iI_lit, iI_sub, iI_le, iI_ite]
  have e1 : (if 0 ≤ (t : Int) / 16 - (f : Int) / 16 then (t : Int) / 16 - (f : Int) / 16 else 0 - ((t : Int) / 16 - (f : Int) / 16)) = (hd_R f t : Int) := by unfold hd_R; split <;> omega
  have e2 : (if 0 ≤ (t : Int) % 16 - (f : Int) % 16 then (t : Int) % 16 - (f : Int) % 16 else 0 - ((t : Int) % 16 - (f : Int) % 16)) = (hd_C f t : Int) := by unfold hd_C; split <;> omega
  rw [e1, e2]
  refine B_X9_firstHider_34 m Q _ _ _ _ _ _ _ ?_
  simp (disch := omega) only [iI_lit, iI_lt, iI_ite]
  have e3 : ∀ n : Nat, (if (n : Int) < 1 then 1 else (n : Int)) = ln_p n := by intro n; unfold ln_p; split <;> split <;> omega
  rw [e3, e3]
  refine B_X9_firstHider_50 m Q _ _ _ _ _ _ _ _ _ ?_
  simp only [iI_lit, iI_mul]
  refine B_X9_firstHider_59 m Q _ _ _ _ _ _ _ _ _ _ (S_heightOf m _ f hf ?_)
  refine B_X9_firstHider_64 m Q _ _ _ _ _ _ _ _ _ _ _ (S_heightOf m _ t ht ?_)
  refine B_X9_firstHider_73 m Q _ _ _ _ _ _ _ _ _ _ _ ?_
  rw [← iI_self (m.1 5 f), ← iI_self (m.1 5 t)]
  simp only [iI_lit, iI_add, iI_sub]
  by_cases hne : f = t
  · subst hne
    have hno := h none (fun i j hk => by
      have a := hk.1
      have b := hk.2.1
      have c := hk.2.2.2.1
      rw [(hd_same rfl).1] at a
      rw [(hd_same rfl).2] at b
      omega)
    rw [(hd_same rfl).1, (hd_same rfl).2, show 2 * ln_p 0 * ln_p 0 = 2 from rfl, show ln_p 0 = 1 from rfl, show ((0 : Nat) : Int) = 0 from rfl]
    refine B_X9_firstHider_90 m Q _ _ _ _ _ _ _ _ _ _ _ _ _ _ _ ?_
    simp (disch := omega) only [iI_lit, iI_le]
    refine ⟨fun z => by omega, fun _ => ⟨fun _ => ?_, fun z => by omega⟩⟩
    refine B_X9_firstHider_118 m Q _ _ _ _ _ _ _ _ _ _ _ _ _ _ _ _ ?_
    simp (disch := omega) only [iI_lit, iI_le]
    refine ⟨fun _ => ?_, fun z => by omega⟩
    refine B_X9_firstHider_141 m Q _ _ _ _ _ _ _ _ _ _ _ _ _ _ _ _ _ ?_
    simp (disch := omega) only [iI_lit, iI_lt, iI_le, iI_ite]
    refine ⟨fun _ => ?_, fun z => by omega⟩
    rw [if_neg (by decide)]
    refine B_X9_firstHider_258 m Q _ _ _ _ _ _ _ _ _ _ _ _ _ _ _ _ _ ?_
    refine ⟨fun z => absurd rfl z, fun _ => ⟨fun _ => ?_, fun z => absurd (Int32.le_refl _) z⟩⟩
    refine B_X9_firstHider_279 m Q _ _ _ _ _ _ _ _ _ _ _ _ _ _ _ _ _ ?_
    refine ⟨fun z => absurd rfl z, fun _ => ⟨fun _ => ?_, fun z => absurd (Int32.le_refl _) z⟩⟩
    refine B_X9_firstHider_303 m Q _ _ _ _ _ _ _ _ _ _ _ _ _ _ _ _ ?_
    simp only [iI_lit, iI_add]
    refine B_X9_firstHider_90 m Q _ _ _ _ _ _ _ _ _ _ _ _ _ _ _ ?_
    simp (disch := omega) only [iI_lit, iI_le]
    refine ⟨fun z => by omega, fun _ => ⟨fun _ => ?_, fun z => by omega⟩⟩
    refine B_X9_firstHider_118 m Q _ _ _ _ _ _ _ _ _ _ _ _ _ _ _ _ ?_
    simp (disch := omega) only [iI_lit, iI_le]
    refine ⟨fun _ => ?_, fun z => by omega⟩
    refine B_X9_firstHider_141 m Q _ _ _ _ _ _ _ _ _ _ _ _ _ _ _ _ _ ?_
    simp (disch := omega) only [iI_lit, iI_lt, iI_le, iI_ite, iI_s4]
    refine ⟨fun z => by omega, fun _ => ⟨fun _ => ?_, fun z => by omega⟩⟩
    refine B_X9_firstHider_175 m Q _ _ _ _ _ _ _ _ _ _ _ _ _ _ _ _ _ _ _ _ _ ?_
    simp (disch := omega) only [iI_lit, iI_neg, iI_add, iI_mul, iI_m15, iI_le]
    refine ⟨fun _ => ?_, fun z => by omega⟩
    refine B_X9_firstHider_195 m Q _ _ _ _ _ _ _ _ _ _ _ _ _ _ _ _ _ _ _ _ ?_
    simp (disch := omega) only [iI_lit, iI_neg, iI_add, iI_mul, iI_eq, iI_le]
    exact ⟨fun z => by omega, fun _ => hno⟩
  · have z : ln_lo (hd_R f t) (hd_C f t) 0 0 = 0 := rfl
    have hl : ln_lo (hd_R f t) (hd_C f t) 0 0 < ln_hi (hd_R f t) (hd_C f t) 0 0 := by
      have b0 : ∀ p w R, 1 ≤ p → 1 ≤ w → 0 < ln_b p w R 0 := by
        intro p w R hp hw
        unfold ln_b
        split
        · rw [show (2 * ((0 : Nat) : Int) + 1) = 1 from rfl, Int.one_mul]; omega
        · omega
      have b1 := b0 (ln_p (hd_C f t)) (ln_w (hd_R f t) (hd_C f t)) (hd_R f t) (ln_p1 _) ww.1
      have b2 := b0 (ln_p (hd_R f t)) (ln_w (hd_R f t) (hd_C f t)) (hd_C f t) (ln_p1 _) ww.1
      rw [z]
      unfold ln_hi
      split <;> omega
    exact S_fhLoop m Q f t hf ht hne _ _ (by omega) (by omega) hh h _ 0 0 0 rfl (Nat.le_refl 0) (fun _ => ⟨rfl, rfl⟩) (Nat.zero_le _) (Nat.zero_le _) hl (by rw [z]; exact hd_zero)
