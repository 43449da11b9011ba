/-! ===== the reference's sets ===== -/
def mv (m : am_M) (a t : Nat) : Nat → Int64 := fun w => m.2.1 a (4 * t + w)
theorem lg_one (x : Int64) : lg_cmp x 1 = iI 0 ↔ x = 1 := by
  show lg_cmp x 1 = 0 ↔ x = 1
  unfold lg_cmp
  by_cases h : x > 1
  · rw [if_pos h]
    constructor
    · intro q; exact absurd q (by decide)
    · rintro rfl; exact absurd h (by decide)
  · rw [if_neg h]
    by_cases h2 : x = 1
    · rw [if_pos h2]
      exact ⟨fun _ => h2, fun _ => rfl⟩
    · rw [if_neg h2]
      exact ⟨fun q => absurd q (by decide), fun q => absurd q h2⟩
theorem zw_01 (y : Int64) : y &&& 1 = 0 ∨ y &&& 1 = 1 := by
  obtain ⟨n, hn, rfl⟩ := wb_of y
  rw [wb_a1 hn]
  rcases Nat.mod_two_eq_zero_or_one n with e | e
  · left; rw [e]; rfl
  · right; rw [e]; rfl
theorem zw_bit1 {x : Int64} {k : Nat} (hk : k < 64) : ((x >>> ((nI k).toInt64 &&& 63)) &&& 1) = 1 ↔ zw_b x k = true := by
  have h := zw_bit (x := x) hk
  rcases zw_01 (x >>> ((nI k).toInt64 &&& 63)) with e | e
  · rw [e]
    rw [h.mp e]
    exact ⟨fun q => absurd q (by decide), fun q => by cases q⟩
  · rw [e]
    constructor
    · intro _
      cases hz : zw_b x k
      · have := h.mpr hz
        rw [e] at this
        exact absurd this (by decide)
      · rfl
    · intro _; rfl
theorem S_mhas (m : am_M) (Q : Option Value → am_M → Prop) (a n t q : Nat) (ha : am_k YL m a = (21, n)) (hb : Nat.ble 3 a = true) (ht : 4 * t + 4 ≤ n) (hn : n < 100000) (hq : q < 256) (h : Q (some (.int (bI (wb (mv m a t) q)))) m) : am_WP YL 173 0 0 0 [some (.ref a), some (.int (iI (t : Int))), some (.int (iI (q : Int)))] [] m Q := by
  refine B_X11_has_0 m Q a n ha hb _ _ ?_
  simp (disch := omega) only [iI_lit, iI_ofNat, iI_neg, iI_add, iI_sub, iI_mul, iI_lt, iI_le, iI_eq, iI_in, iI_cl, iI_div]
  have e0 : iI ((q : Int) - (q : Int) / 64 * 64) = nI (q % 64) := by rw [iI_nI]; congr 1; omega
  have e1 : (4 * (t : Int) + (q : Int) / 64).toNat = 4 * t + q / 64 := by omega
  rw [e0, e1]
  simp only [lg_one, zw_bit1 (Nat.mod_lt q (show 0 < 64 by decide))]
  refine ⟨by omega, ?_⟩
  unfold wb mv at h
  generalize zw_b (m.2.1 a (4 * t + q / 64)) (q % 64) = b at h ⊢
  cases b
  · exact ⟨fun _ => h, fun z => by cases z⟩
  · exact ⟨fun z => absurd rfl z, fun _ => h⟩
theorem bI_0 (b : Bool) : bI b = 0 ↔ b = false := by cases b <;> decide
theorem bI_i0 (b : Bool) : bI b = iI 0 ↔ b = false := bI_0 b
theorem bI_01 (b : Bool) : bI b = 0 ∨ bI b = 1 := by cases b <;> decide
theorem S_msize (m : am_M) (Q : Option Value → am_M → Prop) (a n t : Nat) (ha : am_k YL m a = (21, n)) (hb : Nat.ble 3 a = true) (ht : 4 * t + 4 ≤ n) (hn : n < 100000) (h : Q (some (.int (iI (fb_ct (wb (mv m a t)) 256 : Int)))) m) : am_WP YL 174 0 0 0 [some (.ref a), some (.int (iI (t : Int))), none, none] [] m Q := by
  refine B_X11_sizeOf_0 m Q a n ha hb _ ?_
  have := lp (N := 256) (W := fun k (_ : Unit) => am_WP YL 174 0 0 4 [some (.ref a), some (.int (iI (t : Int))), some (.int (iI (fb_ct (wb (mv m a t)) k : Int))), some (.int (iI (k : Int)))] [] m Q) (fun _ _ => True) (s := ()) trivial ?_ ?_
  · exact this
  · intro k _ hkn _ ih
    refine B_X11_sizeOf_4 _ Q a n ha hb _ _ _ ?_
    simp (disch := omega) only [iI_lit, iI_ofNat, iI_neg, iI_add, iI_sub, iI_mul, iI_lt, iI_le, iI_eq, iI_in, iI_cl]
    refine ⟨fun q => by omega, fun _ => S_mhas m _ a n t k ha hb ht hn hkn ?_⟩
    refine B_X11_sizeOf_18 m Q a n ha hb _ _ _ _ ?_
    have := ih () trivial
    have hs := fb_ct_succ (wb (mv m a t)) k
    simp only [iI_lit, iI_ofNat, iI_neg, iI_add, iI_sub, iI_mul, iI_lt, iI_le, iI_eq, iI_in, iI_cl, bI_i0]
    generalize wb (mv m a t) k = b at hs ⊢
    cases b
    · refine ⟨fun _ => ?_, fun z => absurd rfl z⟩
      rw [hs] at this
      exact this
    · refine ⟨fun z => (by cases z), fun _ => ?_⟩
      rw [hs] at this
      exact this
  · intro _ _
    refine B_X11_sizeOf_4 _ Q a n ha hb _ _ _ ?_
    simp (disch := omega) only [iI_lit, iI_ofNat, iI_neg, iI_add, iI_sub, iI_mul, iI_lt, iI_le, iI_eq, iI_in, iI_cl]
    exact ⟨fun _ => h, fun q => by omega⟩
theorem S_mkth (m : am_M) (Q : Option Value → am_M → Prop) (a n t : Nat) (ha : am_k YL m a = (21, n)) (hb : Nat.ble 3 a = true) (ht : 4 * t + 4 ≤ n) (hn : n < 100000) (k : Int) (hk1 : -2147483648 ≤ k) (hk2 : k ≤ 2147483647) (h : Q (some (.int (iI (kth (wb (mv m a t)) k 256)))) m) : am_WP YL 175 0 0 0 [some (.ref a), some (.int (iI (t : Int))), some (.int (iI k)), none, none] [] m Q := by
  refine B_X11_kth_0 m Q a n ha hb _ _ ?_
  have hle : ∀ z, fb_ct (wb (mv m a t)) z ≤ z := fb_ct_le _
  have := lp (N := 256) (W := fun q (_ : Unit) => am_WP YL 175 0 0 5 [some (.ref a), some (.int (iI (t : Int))), some (.int (iI k)), some (.int (iI (k - (fb_ct (wb (mv m a t)) q : Int)))), some (.int (iI (q : Int)))] [] m Q) (fun q _ => 0 ≤ k → (fb_ct (wb (mv m a t)) q : Int) ≤ k) (s := ()) (fun z => z) ?_ ?_
  · have e : k - (fb_ct (wb (mv m a t)) 0 : Int) = k := Int.sub_zero k
    rw [e] at this
    exact this
  · intro q _ hq hI ih
    have hl := hle q
    refine B_X11_kth_5 _ Q a n ha hb _ _ _ _ ?_
    simp (disch := omega) only [iI_lit, iI_ofNat, iI_neg, iI_add, iI_sub, iI_mul, iI_lt, iI_le, iI_eq, iI_in, iI_cl]
    refine ⟨fun z => by omega, fun _ => ⟨fun z => ?_, fun z => S_mhas m _ a n t q ha hb ht hn hq ?_⟩⟩
    · rw [kth_neg (by omega)] at h
      exact h
    · have hI := hI (by omega)
      have hs := fb_ct_succ (wb (mv m a t)) q
      have hx : wb (mv m a t) q = true → k - (fb_ct (wb (mv m a t)) q : Int) = 0 → Q (some (.int (iI (q : Int)))) m := by
        intro h1 h2
        rw [kth_at h1 (by omega) (by omega)] at h
        exact h
      refine B_X11_kth_24 m Q a n ha hb _ _ _ _ _ ?_
      simp (disch := omega) only [iI_lit, iI_ofNat, iI_neg, iI_add, iI_sub, iI_mul, iI_lt, iI_le, iI_eq, iI_in, iI_cl, bI_i0]
      have := ih ()
      rw [hs] at this
      generalize wb (mv m a t) q = b at this hx ⊢
      cases b
      · exact ⟨fun z => absurd rfl z, fun _ => this (fun _ => hI)⟩
      · refine ⟨fun _ => ⟨fun w => ?_, fun w => hx rfl w⟩, fun z => by cases z⟩
        have := this (fun _ => by simp; omega)
        have e2 : k - (fb_ct (wb (mv m a t)) q : Int) + -1 = k - ((fb_ct (wb (mv m a t)) q + if true = true then 1 else 0 : Nat) : Int) := by simp; omega
        rw [e2]
        exact this
  · intro _ hI
    have hl := hle 256
    refine B_X11_kth_5 _ Q a n ha hb _ _ _ _ ?_
    simp (disch := omega) only [iI_lit, iI_ofNat, iI_neg, iI_add, iI_sub, iI_mul, iI_lt, iI_le, iI_eq, iI_in, iI_cl]
    refine ⟨fun _ => ?_, fun z => by omega⟩
    by_cases hk : k < 0
    · rw [kth_neg hk] at h
      exact h
    · rw [kth_no (fun q hq h1 h2 => by
        have h3 := fb_ct_mono (wb (mv m a t)) (show q + 1 ≤ 256 from hq)
        have h4 := fb_ct_succ (wb (mv m a t)) q
        have h5 := hI (by omega)
        rw [h1, if_pos rfl] at h4
        omega)] at h
      exact h
/-! what is in a range, what is there -/
def inR (v lo hi : Int) : Bool := decide (lo ≤ v ∧ v ≤ hi)
theorem S_isIn (m : am_M) (Q : Option Value → am_M → Prop) (v lo hi : Int) (h1 : -2147483648 ≤ v) (h2 : v ≤ 2147483647) (h3 : -2147483648 ≤ lo) (h4 : lo ≤ 2147483647) (h5 : -2147483648 ≤ hi) (h6 : hi ≤ 2147483647) (h : Q (some (.int (bI (inR v lo hi)))) m) : am_WP YL 161 0 0 0 [some (.int (iI v)), some (.int (iI lo)), some (.int (iI hi))] [] m Q := by
  refine B_X11_isIn_0 m Q _ _ _ ?_
  simp (disch := omega) only [iI_lt]
  unfold inR at h
  refine ⟨fun z => ?_, fun z => ⟨fun w => ?_, fun w => ?_⟩⟩
  · rw [decide_eq_false (by omega)] at h
    exact h
  · rw [decide_eq_false (by omega)] at h
    exact h
  · rw [decide_eq_true (by omega)] at h
    exact h
/-- the reference's squares: c is left of row r's end -/
def mth (m : am_M) (r c : Int) : Bool := decide (0 ≤ r ∧ r ≤ 15 ∧ 0 ≤ c ∧ c < (m.1 110 r.toNat).toInt)
theorem S_isThere (m : am_M) (Q : Option Value → am_M → Prop) (r c : Int) (h1 : -2147483648 ≤ r) (h2 : r ≤ 2147483647) (h3 : -2147483648 ≤ c) (h4 : c ≤ 2147483647) (h : Q (some (.int (bI (mth m r c)))) m) : am_WP YL 162 0 0 0 [some (.ref 109), some (.int (iI r)), some (.int (iI c))] [] m Q := by
  refine B_X11_isThere_0 m Q _ _ ?_
  simp only [iI_lit]
  refine S_isIn m _ r 0 15 h1 h2 (by decide) (by decide) (by decide) (by decide) ?_
  refine B_X11_isThere_7 m Q _ _ _ ?_
  unfold mth at h
  unfold inR
  by_cases hr : 0 ≤ r ∧ r ≤ 15
  · have hl := iI_self (m.1 110 r.toNat)
    have hl1 := Int32.le_toInt (m.1 110 r.toNat)
    have hl2 := Int32.toInt_lt (m.1 110 r.toNat)
    rw [decide_eq_true hr]
    simp (disch := omega) only [iI_lit, iI_ofNat, iI_neg, iI_add, iI_sub, iI_mul, iI_lt, iI_le, iI_eq, iI_in, iI_cl, bI_i0]
    rw [← hl]
    simp (disch := omega) only [iI_lit, iI_ofNat, iI_neg, iI_add, iI_sub, iI_mul, iI_lt, iI_le, iI_eq, iI_in, iI_cl]
    refine ⟨fun z => (by cases z), fun _ => ⟨fun z => ?_, fun z => ⟨by omega, fun w => ?_, fun w => ?_⟩⟩⟩
    · rw [decide_eq_false (by omega)] at h
      exact h
    · rw [decide_eq_false (by omega)] at h
      exact h
    · rw [decide_eq_true (by omega)] at h
      exact h
  · rw [decide_eq_false hr]
    rw [decide_eq_false (fun z => hr ⟨z.1, z.2.1⟩)] at h
    exact ⟨fun _ => h, fun z => absurd rfl z⟩
theorem S_isSquare (m : am_M) (Q : Option Value → am_M → Prop) (s : Nat) (hs : s < 256) (h : Q (some (.int (bI (mth m (s / 16 : Nat) (s % 16 : Nat))))) m) : am_WP YL 163 0 0 0 [some (.ref 109), some (.int (iI (s : Int)))] [] m Q := by
  refine B_X11_isSquare_0 m Q _ ?_
  simp (disch := omega) only [iI_lit, iI_ofNat, iI_neg, iI_add, iI_sub, iI_mul, iI_lt, iI_le, iI_eq, iI_in, iI_cl, iI_div]
  have e : (s : Int) - (s : Int) / 16 * 16 = ((s % 16 : Nat) : Int) := by omega
  have e2 : (s : Int) / 16 = ((s / 16 : Nat) : Int) := by omega
  rw [e, e2]
  refine S_isThere m _ _ _ (by omega) (by omega) (by omega) (by omega) ?_
  exact B_X11_isSquare_12 m Q _ ⟨bI_01 _, h⟩
