/-! ===== a square of the box, by its place on the line ===== -/
theorem hb_off {f t s : Nat} (hb1 : (f / 16 ≤ s / 16 ∧ s / 16 ≤ t / 16) ∨ (t / 16 ≤ s / 16 ∧ s / 16 ≤ f / 16)) (hb2 : (f % 16 ≤ s % 16 ∧ s % 16 ≤ t % 16) ∨ (t % 16 ≤ s % 16 ∧ s % 16 ≤ f % 16)) :
    ∃ i j : Nat, ((i : Int) = if ((f / 16 : Nat) : Int) ≤ (t / 16 : Nat) then ((s / 16 : Nat) : Int) - (f / 16 : Nat) else ((f / 16 : Nat) : Int) - (s / 16 : Nat)) ∧ ((j : Int) = if ((f % 16 : Nat) : Int) ≤ (t % 16 : Nat) then ((s % 16 : Nat) : Int) - (f % 16 : Nat) else ((f % 16 : Nat) : Int) - (s % 16 : Nat)) ∧ i ≤ hd_R f t ∧ j ≤ hd_C f t ∧ hd_q f t i j = (s : Int) := by
  unfold hd_R hd_C hd_q
  have ef : (f : Int) / 16 = ((f / 16 : Nat) : Int) := rfl
  have et : (t : Int) / 16 = ((t / 16 : Nat) : Int) := rfl
  have gf : (f : Int) % 16 = ((f % 16 : Nat) : Int) := rfl
  have gt : (t : Int) % 16 = ((t % 16 : Nat) : Int) := rfl
  have es : (s : Int) = 16 * ((s / 16 : Nat) : Int) + ((s % 16 : Nat) : Int) := by omega
  rw [ef, et, gf, gt, es]
  generalize f / 16 = a at *
  generalize f % 16 = b at *
  generalize t / 16 = c at *
  generalize t % 16 = d at *
  generalize s / 16 = x at *
  generalize s % 16 = y at *
  clear ef et gf gt es
  refine ⟨if a ≤ c then x - a else a - x, if b ≤ d then y - b else b - y, ?_, ?_, ?_, ?_, ?_⟩
  · by_cases h : a ≤ c
    · rw [if_pos h, if_pos (by omega)]; omega
    · rw [if_neg h, if_neg (by omega)]; omega
  · by_cases h : b ≤ d
    · rw [if_pos h, if_pos (by omega)]; omega
    · rw [if_neg h, if_neg (by omega)]; omega
  · by_cases h : a ≤ c
    · rw [if_pos h]; omega
    · rw [if_neg h]; omega
  · by_cases h : b ≤ d
    · rw [if_pos h]; omega
    · rw [if_neg h]; omega
  · by_cases h : a ≤ c
    · rw [if_pos h, if_neg (show ¬ (c : Int) - (a : Int) < 0 by omega)]
      by_cases k : b ≤ d
      · rw [if_pos k, if_neg (show ¬ (d : Int) - (b : Int) < 0 by omega)]; omega
      · rw [if_neg k, if_pos (show (d : Int) - (b : Int) < 0 by omega)]; omega
    · rw [if_neg h, if_pos (show (c : Int) - (a : Int) < 0 by omega)]
      by_cases k : b ≤ d
      · rw [if_pos k, if_neg (show ¬ (d : Int) - (b : Int) < 0 by omega)]; omega
      · rw [if_neg k, if_pos (show (d : Int) - (b : Int) < 0 by omega)]; omega
theorem hd_q0 (f t : Nat) : hd_q f t 0 0 = (f : Int) := by
  unfold hd_q
  have e : (if (t : Int) / 16 - (f : Int) / 16 < 0 then - ((0 : Nat) : Int) else ((0 : Nat) : Int)) = 0 := by split <;> rfl
  have e2 : (if (t : Int) % 16 - (f : Int) % 16 < 0 then - ((0 : Nat) : Int) else ((0 : Nat) : Int)) = 0 := by split <;> rfl
  rw [e, e2]
  omega
theorem hb_b {f t : Nat} {hid : Nat → Nat → Bool} {x l4 l5 : Int} (hf : f < 256) (ht : t < 256) (h : hb_I f t hid x l4 l5) : -1 ≤ l4 ∧ l4 < 256 ∧ 0 ≤ l5 ∧ l5 ≤ 1000000000 := by
  have hR : hd_R f t ≤ 15 := by unfold hd_R; omega
  have hC : hd_C f t ≤ 15 := by unfold hd_C; omega
  rcases h.2 with z | ⟨i, j, z1, z2, z3, z4⟩
  · omega
  · have q := hd_qb hf ht z1.1 z1.2.1
    have b := ln_lb z1.2.2.1 hR hC
    omega
abbrev hb_L (f t : Nat) (l4 l5 eye rise B Lf Rt r : Int) (c s l : Option Value) : am_L := [some (.ref 109), some (.int (iI (f : Int))), none, some (.int (iI (t : Int))), some (.int (iI l4)), some (.int (iI l5)), some (.int (iI eye)), some (.int (iI rise)), none, some (.int (iI B)), some (.int (iI Lf)), some (.int (iI Rt)), some (.int (iI r)), c, s, l]
def hb_h (m : am_M) (f t : Nat) (eye rise : Int) : Nat → Nat → Bool := hd_h (fun k => mth m ((k / 16 : Nat) : Int) ((k % 16 : Nat) : Int)) (fun k => (m.1 111 k).toInt) f t eye rise
theorem FrL_m {m m1 : am_M} (h : FrL m m1) (r c : Int) : mth m1 r c = mth m r c := by
  unfold mth
  rw [h.1 110 (by decide)]
theorem hb_hs {m : am_M} {f t s i j : Nat} {eye rise : Int} (hq : hd_q f t i j = (s : Int)) : hb_h m f t eye rise i j = (!mth m ((s / 16 : Nat) : Int) ((s % 16 : Nat) : Int) || decide (eye * ln_w (hd_R f t) (hd_C f t) + rise * (if rise < 0 then ln_hi (hd_R f t) (hd_C f t) i j else ln_lo (hd_R f t) (hd_C f t) i j) ≤ (m.1 111 s).toInt * ln_w (hd_R f t) (hd_C f t))) := by
  unfold hb_h hd_h
  rw [hq, Int.toNat_natCast]
def hb_bx (f t s : Nat) : Prop := ((f / 16 ≤ s / 16 ∧ s / 16 ≤ t / 16) ∨ (t / 16 ≤ s / 16 ∧ s / 16 ≤ f / 16)) ∧ ((f % 16 ≤ s % 16 ∧ s % 16 ≤ t % 16) ∨ (t % 16 ≤ s % 16 ∧ s % 16 ≤ f % 16))
/-- one square of the box -/
theorem S_bSq (m : am_M) (Q : Option Value → am_M → Prop) (f t s i j : Nat) (hf : f < 256) (ht : t < 256) (hs : s < 256) (eye rise : Int) (he : eye.natAbs ≤ 3200) (hr : rise.natAbs ≤ 6400) (hh : ((m.1 111 s).toInt).natAbs ≤ 3000)
    (hi : i ≤ hd_R f t) (hj : j ≤ hd_C f t) (hq : hd_q f t i j = (s : Int)) (hsf : s ≠ f) (hst : s ≠ t) (l4 l5 B Lf Rt r c : Int) (hI : hb_I f t (hb_h m f t eye rise) s l4 l5)
    (hlo : ln_lo (hd_R f t) (hd_C f t) i j < ln_hi (hd_R f t) (hd_C f t) i j) (m1 : am_M) (fr : FrL m m1) (u8 : m1.1 109 8 = iI (ln_w (hd_R f t) (hd_C f t))) (u6 : m1.1 109 6 = iI (ln_lo (hd_R f t) (hd_C f t) i j)) (u7 : m1.1 109 7 = iI (ln_hi (hd_R f t) (hd_C f t) i j))
    (k : ∀ l4 l5, hb_I f t (hb_h m f t eye rise) ((s : Int) + 1) l4 l5 → am_WP YL 170 0 0 102 (hb_L f t l4 l5 eye rise B Lf Rt r (some (.int (iI (c + 1)))) none none) [] m1 Q) :
    am_WP YL 170 0 0 139 (hb_L f t l4 l5 eye rise B Lf Rt r (some (.int (iI c))) (some (.int (iI (s : Int)))) none) [.int (bI true)] m1 Q := by
  have hb := hb_b hf ht hI
  have hR : hd_R f t ≤ 15 := by unfold hd_R; omega
  have hC : hd_C f t ≤ 15 := by unfold hd_C; omega
  have ww := ln_wb hR hC
  have bl := ln_lb hlo hR hC
  have hk : hd_ok (hd_R f t) (hd_C f t) i j := by
    refine ⟨hi, hj, hlo, ?_, ?_⟩
    · by_cases c0 : 0 < i ∨ 0 < j
      · exact c0
      · exfalso
        obtain rfl : i = 0 := by omega
        obtain rfl : j = 0 := by omega
        rw [hd_q0] at hq
        omega
    · by_cases c0 : i < hd_R f t ∨ j < hd_C f t
      · exact c0
      · exfalso
        have := (hd_qb hf ht hi hj).2.2.mpr ⟨by omega, by omega⟩
        omega
  have one : ∀ i' j', hd_ok (hd_R f t) (hd_C f t) i' j' → hd_q f t i' j' = (s : Int) → i' = i ∧ j' = j := fun i' j' hk e => hd_qi hf ht hi hj hk.1 hk.2.1 (e.trans hq.symm)
  have hhs := hb_hs (m := m) (eye := eye) (rise := rise) hq
  have skip : (hb_h m f t eye rise i j = true → l5 ≤ ln_lo (hd_R f t) (hd_C f t) i j) → hb_I f t (hb_h m f t eye rise) ((s : Int) + 1) l4 l5 := by
    intro z
    refine hb_skip hI (fun i' j' h1 h2 h3 => ?_)
    obtain ⟨rfl, rfl⟩ := one i' j' h1 h3
    exact z h2
  have q1 : (eye * ln_w (hd_R f t) (hd_C f t)).natAbs ≤ 3200 * 450 := pbd he (by omega)
  have q2 : (rise * ln_hi (hd_R f t) (hd_C f t) i j).natAbs ≤ 6400 * 450 := pbd hr (by omega)
  have q3 : (rise * ln_lo (hd_R f t) (hd_C f t) i j).natAbs ≤ 6400 * 450 := pbd hr (by omega)
  have q4 : ((m.1 111 s).toInt * ln_w (hd_R f t) (hd_C f t)).natAbs ≤ 3000 * 450 := pbd hh (by omega)
  have low := hb_low (rise := rise) (e := eye * ln_w (hd_R f t) (hd_C f t)) hlo
  have lb : (if eye * ln_w (hd_R f t) (hd_C f t) + rise * ln_hi (hd_R f t) (hd_C f t) i j < eye * ln_w (hd_R f t) (hd_C f t) + rise * ln_lo (hd_R f t) (hd_C f t) i j then eye * ln_w (hd_R f t) (hd_C f t) + rise * ln_hi (hd_R f t) (hd_C f t) i j else eye * ln_w (hd_R f t) (hd_C f t) + rise * ln_lo (hd_R f t) (hd_C f t) i j).natAbs ≤ 6000000 := by split <;> omega
  rw [← low] at hhs
  refine B_X11_barred_139 m1 Q _ _ _ _ _ _ _ _ _ _ _ _ _ ?_
  rw [u8, u6, u7]
  simp (disch := omega) only [iI_lit, iI_mul, iI_add, iI_lt, iI_ite]
  refine ⟨fun z => absurd z (by decide), fun _ => ⟨fun z => ?_, fun z => k _ _ (skip (fun _ => by omega))⟩⟩
  refine S_isSquare m1 _ s hs ?_
  refine B_X11_barred_195 m1 Q _ _ _ _ _ _ _ _ _ _ _ _ _ _ ?_
  rw [u8, u6, fr.1 111 (by decide), FrL_m fr, iI_cl (by omega) (by omega), Int.toNat_natCast, ← iI_self (m.1 111 s)]
  simp (disch := omega) only [iI_lit, iI_mul, iI_add, iI_le, iI_in, bI_i0]
  have take : hb_h m f t eye rise i j = true → hb_I f t (hb_h m f t eye rise) ((s : Int) + 1) s (ln_lo (hd_R f t) (hd_C f t) i j) := fun z => hb_take hI hk z hq (by omega) one
  refine ⟨fun y => k _ _ (take ?_), fun y => ⟨by omega, fun x => k _ _ (take ?_), fun x => k _ _ (skip (fun w => ?_))⟩⟩
  · rw [hhs, y]
    rfl
  · rw [hhs, decide_eq_true x, Bool.or_true]
  · exfalso
    have y : mth m ((s / 16 : Nat) : Int) ((s % 16 : Nat) : Int) = true := by
      cases hz : mth m ((s / 16 : Nat) : Int) ((s % 16 : Nat) : Int)
      · exact absurd hz y
      · rfl
    rw [hhs, y, decide_eq_false x] at w
    cases w
theorem S_bCol (m : am_M) (Q : Option Value → am_M → Prop) (f t : Nat) (hf : f < 256) (ht : t < 256) (eye rise : Int) (he : eye.natAbs ≤ 3200) (hr : rise.natAbs ≤ 6400) (hh : ∀ k, k < 256 → ((m.1 111 k).toInt).natAbs ≤ 3000)
    (B Lf Rt r : Nat) (hB : B ≤ 15) (hrb : r ≤ 15) (hr1 : (f / 16 ≤ r ∧ r ≤ t / 16) ∨ (t / 16 ≤ r ∧ r ≤ f / 16)) (hRt : Rt ≤ 15) (hbx : ∀ c, Lf ≤ c → c ≤ Rt → (f % 16 ≤ c ∧ c ≤ t % 16) ∨ (t % 16 ≤ c ∧ c ≤ f % 16))
    (k : ∀ m1 l4 l5, FrL m m1 → hb_I f t (hb_h m f t eye rise) (16 * (r : Int) + (Rt : Int) + 1) l4 l5 → am_WP YL 170 0 0 91 (hb_L f t l4 l5 eye rise B Lf Rt ((r : Int) + 1) none none none) [] m1 Q) :
    ∀ (d c : Nat) (m1 : am_M) (l4 l5 : Int), c + d = Rt + 1 → Lf ≤ c → FrL m m1 → hb_I f t (hb_h m f t eye rise) (16 * (r : Int) + (c : Int)) l4 l5 →
      am_WP YL 170 0 0 102 (hb_L f t l4 l5 eye rise B Lf Rt r (some (.int (iI (c : Int)))) none none) [] m1 Q := by
  intro d
  induction d with
  | zero =>
    intro c m1 l4 l5 hc hL fr hI
    have hb := hb_b hf ht hI
    refine B_X11_barred_102 m1 Q _ _ _ _ _ _ _ _ _ _ _ ?_
    simp (disch := omega) only [iI_lit, iI_lt]
    refine ⟨fun _ => ?_, fun z => by omega⟩
    rw [iI_add]
    refine k m1 l4 l5 fr ?_
    rw [show 16 * (r : Int) + (Rt : Int) + 1 = 16 * (r : Int) + (c : Int) by omega]
    exact hI
  | succ d ih =>
    intro c m1 l4 l5 hc hL fr hI
    have hb := hb_b hf ht hI
    have cb := hbx c hL (by omega)
    obtain ⟨s, hs⟩ : ∃ s : Nat, s = 16 * r + c := ⟨_, rfl⟩
    have hs3 : s < 256 := by clear cb hr1; omega
    have hsI : 16 * (r : Int) + (c : Int) = (s : Int) := by omega
    have hs1 : s / 16 = r := by clear cb hr1; omega
    have hs2 : s % 16 = c := by clear cb hr1; omega
    rw [← hs1] at hr1
    rw [← hs2] at cb
    have hbox : hb_bx f t s := ⟨hr1, cb⟩
    clear hr1 cb hbx
    obtain ⟨i, j, hi, hj, hiR, hjC, hq⟩ := hb_off hbox.1 hbox.2
    rw [hsI] at hI
    have nx : ∀ m2 l4 l5, FrL m m2 → hb_I f t (hb_h m f t eye rise) ((s : Int) + 1) l4 l5 → am_WP YL 170 0 0 102 (hb_L f t l4 l5 eye rise B Lf Rt r (some (.int (iI ((c : Int) + 1)))) none none) [] m2 Q := by
      intro m2 l4 l5 f2 hz
      have := ih (c + 1) m2 l4 l5 (by omega) (by omega) f2 (by rw [show 16 * (r : Int) + ((c + 1 : Nat) : Int) = (s : Int) + 1 by omega]; exact hz)
      exact this

    have one : ∀ i' j', hd_ok (hd_R f t) (hd_C f t) i' j' → hd_q f t i' j' = (s : Int) → i' = i ∧ j' = j := fun i' j' hk e => hd_qi hf ht hiR hjC hk.1 hk.2.1 (e.trans hq.symm)
    refine B_X11_barred_102 m1 Q _ _ _ _ _ _ _ _ _ _ _ ?_
    simp (disch := omega) only [iI_lit, iI_mul, iI_add, iI_lt, iI_eq]
    rw [hsI]
    refine ⟨fun z => by omega, fun _ => ⟨fun z => nx m1 _ _ fr (hb_skip hI ?_), fun z => ⟨fun y => nx m1 _ _ fr (hb_skip hI ?_), fun y => ?_⟩⟩⟩
    · intro i' j' hk _ e
      exfalso
      have := hk.2.2.2.1
      have e1 := hd_qi hf ht (Nat.zero_le _) (Nat.zero_le _) hk.1 hk.2.1 (show hd_q f t i' j' = hd_q f t 0 0 by rw [hd_q0, e, z])
      omega
    · intro i' j' hk _ e
      exfalso
      have q := hd_qb hf ht hk.1 hk.2.1
      have := hk.2.2.2.2
      have := q.2.2.mp (by omega)
      omega
    · refine S_isOn m1 _ f t s i j hf ht hs3 hbox.1 hbox.2 hi hj ?_
      intro m2 fr2 u8 u6 u7
      by_cases hlo : ln_lo (hd_R f t) (hd_C f t) i j < ln_hi (hd_R f t) (hd_C f t) i j
      · rw [decide_eq_true hlo]
        exact S_bSq m Q f t s i j hf ht hs3 eye rise he hr (hh s hs3) hiR hjC hq (by omega) (by omega) l4 l5 B Lf Rt r c hI hlo m2 (fr.tr fr2) u8 u6 u7 (fun l4 l5 hz => nx m2 l4 l5 (fr.tr fr2) hz)
      · rw [decide_eq_false hlo]
        refine B_X11_barred_139 m2 Q _ _ _ _ _ _ _ _ _ _ _ _ _ ⟨fun _ => ?_, fun z => absurd rfl z⟩
        rw [show iI (c : Int) + 1 = iI ((c : Int) + 1) from iI_add _ 1]
        refine nx m2 _ _ (fr.tr fr2) (hb_skip hI ?_)
        intro i' j' hk _ e
        obtain ⟨rfl, rfl⟩ := one i' j' hk e
        exact absurd hk.2.2.1 hlo
