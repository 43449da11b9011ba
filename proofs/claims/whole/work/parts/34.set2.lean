/-! ===== sets of squares, square by square ===== -/
def bI (b : Bool) : Int32 := match b with
  | true => 1
  | false => 0
def wb (f : Nat → Int64) (q : Nat) : Bool := zw_b (f (q / 64)) (q % 64)
theorem wb_ext {f g : Nat → Int64} (h : ∀ j, j < 256 → wb f j = wb g j) : ∀ w, w < 4 → f w = g w := by
  intro w hw
  apply zw_ext
  intro j hj
  have := h (64 * w + j) (by omega)
  unfold wb at this
  rw [show (64 * w + j) / 64 = w by omega, show (64 * w + j) % 64 = j by omega] at this
  exact this
theorem wb_fx {g old : Nat → Int64} {j : Nat} (h : j < 256) : wb (am_fx 4 g old) j = wb g j := by
  unfold wb
  rw [am_fx_lt (show j / 64 < 4 by omega)]
theorem wb_and' (f g : Nat → Int64) (j : Nat) : wb (fun k => f k &&& g k) j = (wb f j && wb g j) := zw_and _ _ _
theorem wb_out' (f g : Nat → Int64) (j : Nat) : wb (fun k => f k &&& (g k ^^^ (-1))) j = (wb f j && !wb g j) := by
  unfold wb
  rw [zw_and, zw_not _ (Nat.mod_lt _ (by decide))]
theorem wb_zero (j : Nat) : wb (fun _ => 0) j = false := zw_0 _
theorem wb_ones (j : Nat) : wb (fun _ => -1) j = true := zw_m1 (Nat.mod_lt _ (by decide))
theorem lg_z (x : Int64) : lg_cmp x 0 = 0 ↔ x = 0 := by
  unfold lg_cmp
  by_cases h : x > 0
  · rw [if_pos h]
    constructor
    · intro q; exact absurd q (by decide)
    · rintro rfl; exact absurd h (by decide)
  · rw [if_neg h]
    by_cases h2 : x = 0
    · rw [if_pos h2]
      exact ⟨fun _ => h2, fun _ => rfl⟩
    · rw [if_neg h2]
      exact ⟨fun q => absurd q (by decide), fun q => absurd q h2⟩
theorem lg_zi (x : Int64) : lg_cmp x 0 = iI 0 ↔ x = 0 := lg_z x
theorem iI_bt {x : Int64} {q : Nat} (hq : q < 2147483648) : (x >>> ((iI (q : Int) &&& iI 63).toInt64 &&& 63)) &&& 1 = 0 ↔ zw_b x (q % 64) = false := by
  rw [iI_m63 (by omega) (by omega), show ((q : Int) % 64) = ((q % 64 : Nat) : Int) by omega, ← iI_nI]
  exact zw_bit (Nat.mod_lt _ (by decide))
theorem S_has (m : am_M) (Q : Option Value → am_M → Prop) (a : Nat) (ha : sw_sq m a) (q : Nat) (hq : q < 256) (h : Q (some (.int (bI (wb (m.2.1 (a + 1)) q)))) m) : am_WP YL 70 0 0 0 [some (.ref a), some (.int (iI (q : Int)))] [] m Q := by
  refine B_X6_has_0 m Q a ha _ ?_
  simp (disch := omega) only [iI_lit, iI_ofNat, iI_neg, iI_add, iI_sub, iI_mul, iI_lt, iI_le, iI_eq, iI_in, iI_cl, iI_s6, lg_zi, iI_bt]
  have e : ((q : Int) / 64).toNat = q / 64 := by omega
  refine ⟨fun _ => by omega, fun _ => ⟨fun _ => by omega, fun _ => ⟨by omega, ?_⟩⟩⟩
  rw [e]
  unfold wb at h
  generalize zw_b (m.2.1 (a + 1) (q / 64)) (q % 64) = b at h ⊢
  cases b
  · exact ⟨fun _ => h, fun z => absurd rfl z⟩
  · exact ⟨fun z => (by cases z), fun _ => h⟩
theorem S_put (m : am_M) (Q : Option Value → am_M → Prop) (a : Nat) (ha : sw_sq m a) (q : Nat) (hq : q < 256) (h : ∀ f, (∀ j, j < 256 → wb f j = (wb (m.2.1 (a + 1)) j || decide (j = q))) → Q none (am_wJ m (a + 1) f)) : am_WP YL 68 0 0 0 [some (.ref a), some (.int (iI (q : Int)))] [] m Q := by
  refine B_X6_put_0 m Q a ha _ ?_
  simp (disch := omega) only [iI_lit, iI_ofNat, iI_neg, iI_add, iI_sub, iI_mul, iI_lt, iI_le, iI_eq, iI_in, iI_cl, iI_s6, iI_m63]
  have e : ((q : Int) / 64).toNat = q / 64 := by omega
  refine ⟨fun _ => by omega, fun _ => ⟨fun _ => by omega, fun _ => ⟨by omega, by omega, ?_⟩⟩⟩
  rw [e, am_pJ_w]
  refine h _ ?_
  intro j hj
  unfold wb
  dsimp only
  by_cases hw : j / 64 = q / 64
  · rw [if_pos hw, show ((q : Int) % 64) = ((q % 64 : Nat) : Int) by omega, ← iI_nI, zw_put (Nat.mod_lt _ (by decide)) (Nat.mod_lt _ (by decide)), hw]
    congr 1
    have : (j % 64 = q % 64) ↔ j = q := by omega
    simp only [this]
  · rw [if_neg hw, decide_eq_false (by omega), Bool.or_false]
theorem S_drop (m : am_M) (Q : Option Value → am_M → Prop) (a : Nat) (ha : sw_sq m a) (q : Nat) (hq : q < 256) (h : ∀ f, (∀ j, j < 256 → wb f j = (wb (m.2.1 (a + 1)) j && !decide (j = q))) → Q none (am_wJ m (a + 1) f)) : am_WP YL 69 0 0 0 [some (.ref a), some (.int (iI (q : Int)))] [] m Q := by
  refine B_X6_drop_0 m Q a ha _ ?_
  simp (disch := omega) only [iI_lit, iI_ofNat, iI_neg, iI_add, iI_sub, iI_mul, iI_lt, iI_le, iI_eq, iI_in, iI_cl, iI_s6, iI_m63]
  have e : ((q : Int) / 64).toNat = q / 64 := by omega
  refine ⟨fun _ => by omega, fun _ => ⟨fun _ => by omega, fun _ => ⟨by omega, by omega, ?_⟩⟩⟩
  rw [e, am_pJ_w]
  refine h _ ?_
  intro j hj
  unfold wb
  dsimp only
  by_cases hw : j / 64 = q / 64
  · rw [if_pos hw, show ((q : Int) % 64) = ((q % 64 : Nat) : Int) by omega, ← iI_nI, zw_drop (Nat.mod_lt _ (by decide)) (Nat.mod_lt _ (by decide)), hw]
    congr 2
    have : (j % 64 = q % 64) ↔ j = q := by omega
    simp only [this]
  · rw [if_neg hw, decide_eq_false (by omega), Bool.not_false, Bool.and_true]
/-- do they meet -/
def wm0 (f g : Nat → Int64) : Nat → Bool
  | 0 => false
  | k + 1 => wm0 f g k || (f k &&& g k != 0)
def wm (f g : Nat → Int64) : Bool := wm0 f g 4
theorem wm0_t {f g : Nat → Int64} {w : Nat} (h : ¬ f w &&& g w = 0) : ∀ k, w < k → wm0 f g k = true
  | 0, hw => absurd hw (Nat.not_lt_zero w)
  | k + 1, hw => by
    show (wm0 f g k || (f k &&& g k != 0)) = true
    by_cases e : w = k
    · subst e
      rw [bne_iff_ne.mpr h, Bool.or_true]
    · rw [wm0_t h k (by omega), Bool.true_or]
theorem wm0_f {f g : Nat → Int64} : ∀ k, (∀ w, w < k → f w &&& g w = 0) → wm0 f g k = false
  | 0, _ => rfl
  | k + 1, h => by
    show (wm0 f g k || (f k &&& g k != 0)) = false
    rw [wm0_f k (fun w hw => h w (by omega)), h k (by omega)]
    rfl
theorem wm_t {f g : Nat → Int64} {w : Nat} (hw : w < 4) (h : ¬ f w &&& g w = 0) : wm f g = true := wm0_t h 4 hw
theorem wm_f {f g : Nat → Int64} (h : ∀ w, w < 4 → f w &&& g w = 0) : wm f g = false := wm0_f 4 h
theorem wm_iff (f g : Nat → Int64) : wm f g = true ↔ ∃ q, q < 256 ∧ wb f q = true ∧ wb g q = true := by
  constructor
  · intro h0
    have h1 : ¬ ∀ w, w < 4 → f w &&& g w = 0 := fun q => by rw [wm_f q] at h0; cases h0
    obtain ⟨w, hw⟩ := Classical.not_forall.mp h1
    obtain ⟨hw, h⟩ := Classical.not_imp.mp hw
    rw [zw_eq0] at h
    obtain ⟨j, hj⟩ := Classical.not_forall.mp h
    obtain ⟨hj, h2⟩ := Classical.not_imp.mp hj
    rw [zw_and] at h2
    refine ⟨64 * w + j, by omega, ?_⟩
    unfold wb
    rw [show (64 * w + j) / 64 = w by omega, show (64 * w + j) % 64 = j by omega]
    cases h3 : zw_b (f w) j <;> cases h4 : zw_b (g w) j <;> simp [h3, h4] at h2 ⊢
  · rintro ⟨q, hq, h1, h2⟩
    refine wm_t (w := q / 64) (by omega) (fun e => ?_)
    have := zw_eq0.mp e (q % 64) (Nat.mod_lt _ (by decide))
    rw [zw_and] at this
    unfold wb at h1 h2
    rw [h1, h2] at this
    cases this
theorem S_meets (m : am_M) (Q : Option Value → am_M → Prop) (a b : Nat) (ha : sw_sq m a) (hb : sw_sq m b) (h : Q (some (.int (bI (wm (m.2.1 (a + 1)) (m.2.1 (b + 1)))))) m) : am_WP YL 73 0 0 0 [some (.ref a), some (.ref b), none] [] m Q := by
  refine B_X6_meets_0 m Q a ha b hb ?_
  have := lp (N := 4) (W := fun k (_ : Unit) => am_WP YL 73 0 0 2 [some (.ref a), some (.ref b), some (.int (iI (k : Int)))] [] m Q) (fun k _ => ∀ w, w < k → m.2.1 (a + 1) w &&& m.2.1 (b + 1) w = 0) (s := ()) (fun w hw => absurd hw (Nat.not_lt_zero w)) ?_ ?_
  · exact this
  · intro k _ hkn hI ih
    refine B_X6_meets_2 _ Q a ha b hb _ ?_
    simp (disch := omega) only [iI_lit, iI_ofNat, iI_neg, iI_add, iI_sub, iI_mul, iI_lt, iI_le, iI_eq, iI_in, iI_cl, lg_zi, Int.toNat_natCast]
    refine ⟨fun q => by omega, fun _ => ⟨by omega, by omega, fun z => ih () ?_, fun z => ?_⟩⟩
    · intro w hw
      by_cases h1 : w < k
      · exact hI w h1
      · obtain rfl : w = k := by omega
        exact z
    · have e : wm (m.2.1 (a + 1)) (m.2.1 (b + 1)) = true := wm_t hkn z
      rw [e] at h
      exact h
  · intro _ hI
    refine B_X6_meets_2 _ Q a ha b hb _ ?_
    simp (disch := omega) only [iI_lit, iI_ofNat, iI_neg, iI_add, iI_sub, iI_mul, iI_lt, iI_le, iI_eq, iI_in, iI_cl, lg_zi]
    refine ⟨fun _ => ?_, fun q => by omega⟩
    have e : wm (m.2.1 (a + 1)) (m.2.1 (b + 1)) = false := wm_f hI
    rw [e] at h
    exact h
theorem S_isEmpty (m : am_M) (Q : Option Value → am_M → Prop) (a : Nat) (ha : sw_sq m a) (h : Q (some (.int (bI (!wm (m.2.1 (a + 1)) (m.2.1 (a + 1)))))) m) : am_WP YL 74 0 0 0 [some (.ref a)] [] m Q := by
  refine B_X6_isEmpty_0 m Q a ha (S_meets m _ a a ha ha ?_)
  refine B_X6_isEmpty_5 m Q _ ?_
  generalize wm (m.2.1 (a + 1)) (m.2.1 (a + 1)) = b at h ⊢
  cases b
  · exact ⟨fun z => absurd rfl z, fun _ => h⟩
  · exact ⟨fun _ => h, fun z => absurd z (by decide)⟩
theorem wb_pc (f : Nat → Int64) (w : Nat) : fb_ct (wb f) (64 * (w + 1)) = fb_ct (wb f) (64 * w) + zw_pc (f w) := by
  rw [show 64 * (w + 1) = 64 * w + 64 by omega, fb_ct_split]
  congr 1
  apply fb_ct_cong
  intro k hk
  unfold wb
  rw [show (64 * w + k) / 64 = w by omega, show (64 * w + k) % 64 = k by omega]
theorem S_size (m : am_M) (Q : Option Value → am_M → Prop) (a : Nat) (ha : sw_sq m a) (h : Q (some (.int (iI (fb_ct (wb (m.2.1 (a + 1))) 256 : Int)))) m) : am_WP YL 75 0 0 0 [some (.ref a), none, none] [] m Q := by
  refine B_X6_size_0 m Q a ha ?_
  have := lp (N := 4) (W := fun k (_ : Unit) => am_WP YL 75 0 0 4 [some (.ref a), some (.int (iI (fb_ct (wb (m.2.1 (a + 1))) (64 * k) : Int))), some (.int (iI (k : Int)))] [] m Q) (fun _ _ => True) (s := ()) trivial ?_ ?_
  · exact this
  · intro k _ hkn _ ih
    refine B_X6_size_4 _ Q a ha _ _ ?_
    simp (disch := omega) only [iI_lit, iI_ofNat, iI_neg, iI_add, iI_sub, iI_mul, iI_lt, iI_le, iI_eq, iI_in, iI_cl, Int.toNat_natCast]
    refine ⟨fun q => by omega, fun _ => ⟨by omega, S_pop64 m _ _ ?_⟩⟩
    refine B_X6_size_19 m Q a ha _ _ _ ?_
    have := ih () trivial
    rw [wb_pc, Int.natCast_add] at this
    simp only [iI_lit, iI_add]
    exact this
  · intro _ _
    refine B_X6_size_4 _ Q a ha _ _ ?_
    simp (disch := omega) only [iI_lit, iI_ofNat, iI_neg, iI_add, iI_sub, iI_mul, iI_lt, iI_le, iI_eq, iI_in, iI_cl, Int.toNat_natCast]
    exact ⟨fun _ => h, fun q => by omega⟩
