/-! ===== the crews of the class ===== -/
def cco (m : am_M) (k : Int) : Bool := decide (0 ≤ k ∧ k < (m.1 91 6).toInt ∧ k < 8)
theorem S_cIsOne (m : am_M) (Q : Option Value → am_M → Prop) (k : Int) (hbk : -2147483648 ≤ k ∧ k ≤ 2147483647) (h : Q (some (.int (bI (cco m k)))) m) : am_WP YL 3 0 0 0 [some (.ref 91), some (.int (iI k))] [] m Q := by
  refine B_X0_isOne_0 m Q _ ?_
  have b := iI_b (m.1 91 6)
  rw [← iI_self (m.1 91 6)]
  simp (disch := omega) only [iI_lit, iI_ofNat, iI_neg, iI_add, iI_sub, iI_mul, iI_lt, iI_le, iI_eq, iI_in, iI_cl]
  unfold cco at h
  refine ⟨fun z => ?_, fun z => ⟨fun y => ?_, fun y => ⟨fun x => ?_, fun x => ?_⟩⟩⟩
  · rw [decide_eq_false (by omega)] at h
    exact h
  · rw [decide_eq_false (by omega)] at h
    exact h
  · rw [decide_eq_false (by omega)] at h
    exact h
  · rw [decide_eq_true (by omega)] at h
    exact h
theorem S_come (m : am_M) (Q : Option Value → am_M → Prop) (C : Nat) (hC : C < 8) (h6 : m.1 91 6 = iI (C : Int)) (q : Int32) (h : ∀ m1, Ag [91, 92] m m1 → m1.1 91 6 = iI ((C + 1 : Nat) : Int) → (∀ k, m1.1 92 k = if k = C then q else m.1 92 k) → Q (some (.int (iI (C : Int)))) m1) : am_WP YL 4 0 0 0 [some (.ref 91), some (.int q)] [] m Q := by
  have e : (iI (C : Int)).toNatClampNeg = C := by rw [iI_cl (by omega) (by omega), Int.toNat_natCast]
  refine B_X0_come_0 m Q _ ?_
  rw [h6, e, am_pI_at, if_pos rfl, am_pI_ne (show 91 ≠ 92 by decide), h6, iI_i1, show (1 : Int32) = iI 1 from rfl, iI_sub, show (C : Int) + 1 - 1 = (C : Int) by omega]
  refine ⟨fun z => absurd ((iI_lt (b := 0) (by omega) (by omega) (by omega) (by omega)).mp z) (by omega), fun _ => ⟨fun _ => ⟨(iI_in (by omega) (by omega)).mpr (by omega), h _ (((Ag.rf _ m).pI (by decide) _ _).pI (by decide) _ _) ?_ ?_⟩, fun z => absurd ((iI_lt (b := 8) (by omega) (by omega) (by omega) (by omega)).mpr (by omega)) z⟩⟩
  · rw [am_pI_at, if_pos rfl]
    rfl
  · intro k
    rw [am_pI_ne (by decide), am_pI_at]
theorem S_comeNo (m : am_M) (Q : Option Value → am_M → Prop) (h6 : m.1 91 6 = 8) (q : Int32) (h : Q (some (.int (-1))) m) : am_WP YL 4 0 0 0 [some (.ref 91), some (.int q)] [] m Q := by
  refine B_X0_come_0 m Q _ ?_
  rw [h6]
  exact ⟨fun z => absurd z (by decide), fun _ => ⟨fun z => absurd z (by decide), fun _ => h⟩⟩
theorem S_cForget (m : am_M) (Q : Option Value → am_M → Prop) (C : Nat) (hC : C < 8) (h6 : m.1 91 6 = iI ((C + 1 : Nat) : Int)) (h : Q none (am_pI m 91 6 (iI (C : Int)))) : am_WP YL 5 0 0 0 [some (.ref 91)] [] m Q := by
  refine B_X0_forgetLast_0 m Q ?_
  rw [h6, show (1 : Int32) = iI 1 from rfl, iI_sub, show ((C + 1 : Nat) : Int) - 1 = (C : Int) by omega]
  exact ⟨fun z => absurd ((iI_le (b := 0) (by omega) (by omega) (by omega) (by omega)).mp z) (by omega), fun _ => h⟩
theorem S_standsAt (m : am_M) (Q : Option Value → am_M → Prop) (k : Int) (hbk : -2147483648 ≤ k ∧ k ≤ 2147483647) (h : Q (some (.int (if cco m k then m.1 92 k.toNat else -1))) m) : am_WP YL 6 0 0 0 [some (.ref 91), some (.int (iI k))] [] m Q := by
  refine B_X0_standsAt_0 m Q _ (S_cIsOne m _ k hbk (B_X0_standsAt_5 m Q _ _ (bz (fun z => ?_) (fun z => ?_))))
  · rw [z] at h
    exact h
  · rw [if_pos z] at h
    have y := of_decide_eq_true z
    rw [iI_cl (by omega) (by omega), iI_in (by omega) (by omega)]
    exact ⟨by omega, h⟩
theorem S_stand (m : am_M) (Q : Option Value → am_M → Prop) (k : Nat) (hk : cco m (k : Int) = true) (q : Int32) (h : Q none (am_pI m 92 k q)) : am_WP YL 7 0 0 0 [some (.ref 91), some (.int (iI (k : Int))), some (.int q)] [] m Q := by
  have y := of_decide_eq_true hk
  refine B_X0_stand_0 m Q _ _ (S_cIsOne m _ k (by omega) (B_X0_stand_5 m Q _ _ _ (bz (fun z => by rw [hk] at z; cases z) (fun _ => ?_))))
  rw [iI_cl (by omega) (by omega), iI_in (by omega) (by omega), Int.toNat_natCast]
  exact ⟨by omega, h⟩
theorem S_givenTo (m : am_M) (Q : Option Value → am_M → Prop) (f : Int) (hbf : -2147483648 ≤ f ∧ f ≤ 2147483647) (h : Q (some (.int (if inR f 0 19 then m.1 93 f.toNat else -1))) m) : am_WP YL 8 0 0 0 [some (.ref 91), some (.int (iI f))] [] m Q := by
  refine B_X0_givenTo_0 m Q _ ?_
  unfold inR at h
  by_cases c : 0 ≤ f ∧ f ≤ 19
  · rw [decide_eq_true c, if_pos rfl] at h
    simp (disch := omega) only [iI_lit, iI_ofNat, iI_neg, iI_add, iI_sub, iI_mul, iI_lt, iI_le, iI_eq, iI_in, iI_cl]
    exact ⟨fun z => by omega, fun _ => ⟨fun z => by omega, fun _ => ⟨by omega, h⟩⟩⟩
  · rw [decide_eq_false c, if_neg Bool.false_ne_true] at h
    simp (disch := omega) only [iI_lit, iI_ofNat, iI_neg, iI_add, iI_sub, iI_mul, iI_lt, iI_le, iI_eq, iI_in, iI_cl]
    exact ⟨fun _ => h, fun _ => ⟨fun _ => h, fun z => by omega⟩⟩
theorem S_cTake (m : am_M) (Q : Option Value → am_M → Prop) (h : ∀ m1, Ag [91, 93] m m1 → m1.1 91 6 = 0 → (∀ f, f < 20 → m1.1 93 f = -1) → Q none m1) : am_WP YL 1 0 0 0 [some (.ref 91)] [] m Q := by
  refine B_X0_takeAway_0 m Q (S_fillI _ _ 93 20 rfl rfl (by decide) _ (B_X0_takeAway_13 _ Q (h _ (((Ag.rf _ m).pI (by decide) _ _).wI (by decide) _) ?_ ?_)))
  · rw [am_wI_ne (by decide), am_pI_at, if_pos rfl]
  · intro f hf
    rw [am_wI_at, am_fx_lt hf]
/-- how far, or too far -/
def cfar (m : am_M) (q : Nat) : Int32 := if m.1 88 q = -1 then 10000000 else m.1 88 q
def cat (m : am_M) (k : Nat) : Nat := (m.1 92 k).toInt.toNat
theorem S_ask (m : am_M) (Q : Option Value → am_M → Prop) (p C : Nat) (hp : p < 8) (hC : C ≤ 8) (h5 : m.1 91 5 = iI (p : Int)) (h6 : m.1 91 6 = iI (C : Int)) (hat : ∀ k, k < C → 0 ≤ (m.1 92 k).toInt ∧ (m.1 92 k).toInt < 256) (hg : ¬ m.1 87 6 = -1) (f : Int32)
    (h : ∀ m1, Ag [91, 94, 95] m m1 → m1.1 91 5 = iI ((p + 1 : Nat) : Int) → m1.1 91 6 = iI (C : Int) → (∀ j, m1.1 94 j = if j = p then f else m.1 94 j) → (∀ j, m1.1 95 j = if 8 * p ≤ j ∧ j < 8 * p + C then cfar m (cat m (j - 8 * p)) else m.1 95 j) → Q none m1) :
    am_WP YL 10 0 0 0 [some (.ref 91), some (.int f), some (.ref 87), none, none] [] m Q := by
  have e : (iI (p : Int)).toNatClampNeg = p := by rw [iI_cl (by omega) (by omega), Int.toNat_natCast]
  refine B_X0_ask_0 m Q _ ?_
  rw [h5, e]
  refine ⟨fun z => absurd ((iI_lt (b := 0) (by omega) (by omega) (by omega) (by omega)).mp z) (by omega), fun _ => ⟨fun _ => ⟨(iI_in (by omega) (by omega)).mpr (by omega), ?_⟩, fun z => absurd ((iI_lt (b := 8) (by omega) (by omega) (by omega) (by omega)).mpr (by omega)) z⟩⟩
  have fin : ∀ m1, Ag [91, 94, 95] m m1 → m1.1 91 = m.1 91 → (∀ j, m1.1 94 j = if j = p then f else m.1 94 j) → (∀ j, m1.1 95 j = if 8 * p ≤ j ∧ j < 8 * p + C then cfar m (cat m (j - 8 * p)) else m.1 95 j) → Q none (am_pI m1 91 5 (m1.1 91 5 + (1 : Int32))) := by
    intro m1 f1 b1 b2 b3
    refine h _ (f1.pI (by decide) _ _) ?_ ?_ (fun j => ?_) (fun j => ?_)
    · rw [am_pI_at, if_pos rfl, b1, h5, iI_i1]
      rfl
    · rw [am_pI_at, if_neg (by decide), b1, h6]
    · rw [am_pI_ne (by decide)]; exact b2 j
    · rw [am_pI_ne (by decide)]; exact b3 j
  have := lp (N := C) (W := fun k m1 => am_WP YL 10 0 0 29 [some (.ref 91), none, some (.ref 87), some (.int (iI (k : Int))), none] [] m1 Q) (fun k m1 => Ag [91, 94, 95] m m1 ∧ m1.1 91 = m.1 91 ∧ (∀ j, m1.1 94 j = if j = p then f else m.1 94 j) ∧ (∀ j, m1.1 95 j = if 8 * p ≤ j ∧ j < 8 * p + k then cfar m (cat m (j - 8 * p)) else m.1 95 j)) (s := am_pI m 94 p f) ⟨(Ag.rf _ m).pI (by decide) _ _, by rw [am_pI_ne (by decide)], fun j => am_pI_at _ _ _ _ _, fun j => by rw [am_pI_ne (by decide), if_neg (by omega)]⟩ ?_ ?_
  · exact this
  · rintro k m1 hk ⟨f1, b1, b2, b3⟩ ih
    have hk2 := hat k hk
    have eat : m.1 92 k = iI (cat m k : Int) := by unfold cat; rw [Int.toNat_of_nonneg hk2.1, iI_self]
    have cat2 : cat m k < 256 := by unfold cat; omega
    refine B_X0_ask_29 m1 Q _ ?_
    rw [b1, h6, iI_cl (by omega) (by omega), Int.toNat_natCast, f1.I (show 92 ∉ _ by decide), eat]
    refine ⟨fun z => absurd ((iI_le (by omega) (by omega) (by omega) (by omega)).mp z) (by omega), fun _ => ⟨fun z => absurd ((iI_le (a := 8) (by omega) (by omega) (by omega) (by omega)).mp z) (by omega), fun _ => ⟨(iI_in (by omega) (by omega)).mpr (by omega), ?_⟩⟩⟩
    refine S_minutesFrom m1 _ (cat m k) cat2 (by rw [f1.I (show 87 ∉ _ by decide)]; exact hg) (B_X0_ask_53 m1 Q _ _ ?_)
    rw [b1, h5, f1.I (show 88 ∉ _ by decide), show (8 : Int32) = iI 8 from rfl, iI_mul, iI_add, iI_cl (by omega) (by omega), iI_in (by omega) (by omega), show (8 * (p : Int) + (k : Int)).toNat = 8 * p + k by omega, iI_i1]
    have go : ∀ v, v = cfar m (cat m k) → am_WP YL 10 0 0 29 [some (.ref 91), none, some (.ref 87), some (.int (iI ((k : Int) + 1))), none] [] (am_pI m1 95 (8 * p + k) v) Q := by
      intro v hv
      refine ih _ ⟨f1.pI (by decide) _ _, by rw [am_pI_ne (by decide)]; exact b1, fun j => by rw [am_pI_ne (by decide)]; exact b2 j, fun j => ?_⟩
      rw [am_pI_at, b3 j]
      by_cases c : j = 8 * p + k
      · rw [if_pos c, if_pos (by omega), hv, show j - 8 * p = k by omega]
      · rw [if_neg c]
        by_cases c2 : 8 * p ≤ j ∧ j < 8 * p + k
        · rw [if_pos c2, if_pos (by omega)]
        · rw [if_neg c2, if_neg (by omega)]
    refine ⟨fun z => ⟨by omega, go _ ?_⟩, fun z => ⟨by omega, go _ ?_⟩⟩
    · unfold cfar
      rw [if_neg z]
    · unfold cfar
      rw [if_pos z]
  · rintro m1 ⟨f1, b1, b2, b3⟩
    refine B_X0_ask_29 m1 Q _ ?_
    have h6' : m1.1 91 6 = iI (C : Int) := by rw [b1, h6]
    refine ⟨fun _ => fin m1 f1 b1 b2 b3, fun z => absurd ?_ z⟩
    rw [h6']
    exact (iI_le (by omega) (by omega) (by omega) (by omega)).mpr (Int.le_refl _)
/-! assign -/
def lsv (m : am_M) (t : Nat) : Nat := (m.1 96 t).toInt.toNat
def CO (m : am_M) (n C : Nat) (w : Nat → Nat → Nat) : Prop := m.1 91 5 = iI (n : Int) ∧ m.1 91 6 = iI (C : Int) ∧ n ≤ C ∧ C ≤ 8 ∧ (∀ p k, p < n → k < C → m.1 95 (8 * p + k) = iI (w p k : Int)) ∧ (∀ p k, w p k < 1000000 ∨ w p k = 10000000)
def LG (m : am_M) (n C : Nat) (w : Nat → Nat → Nat) (s : Nat) : Prop := m.1 96 s = iI (lsv m s : Int) ∧ lsv m s ≤ 10000000 ∧ lsv m s = if n ≤ pcn s then 0 else lmn (fun k => w (pcn s) k + lsv m (s ||| 2 ^ k)) (fun k => !s.testBit k) C
theorem or_gt {t k : Nat} (h : t.testBit k = false) : t < t ||| 2 ^ k := by
  have a : t ≤ t ||| 2 ^ k := Nat.left_le_or
  rcases Nat.lt_or_eq_of_le a with z | z
  · exact z
  · have : (t ||| 2 ^ k).testBit k = true := by rw [Nat.testBit_or, Nat.testBit_two_pow, decide_eq_true rfl, Bool.or_true]
    rw [← z, h] at this
    cases this
theorem S_sumWith (m : am_M) (Q : Option Value → am_M → Prop) (n C : Nat) (w : Nat → Nat → Nat) (hO : CO m n C w) (t p k : Nat) (ht : t < 256) (hp : p < n) (hk : k < C) (hb : t.testBit k = false) (hs : m.1 96 (t ||| 2 ^ k) = iI (lsv m (t ||| 2 ^ k) : Int)) (h : Q (some (.int (iI ((w p k + lsv m (t ||| 2 ^ k) : Nat) : Int)))) m) : am_WP YL 13 0 0 0 [some (.ref 91), some (.int (iI (t : Int))), some (.int (iI (p : Int))), some (.int (iI (k : Int))), none, none] [] m Q := by
  have hC := hO.2.2.2.1
  have hnC := hO.2.2.1
  have ol := or_lt ht (show k < 8 by omega)
  have hpw : 2 ^ k < 2 ^ 8 := Nat.pow_lt_pow_right (by decide) (by omega)
  refine B_X0_sumWith_0 m Q _ _ _ ?_
  rw [show (8 : Int32) = iI 8 from rfl, iI_mul, iI_add, iI_sh1 (show k < 31 by omega), iI_or (by omega) (by omega), show (255 : Int32) = iI 255 from rfl, iI_m255 (by omega) (by omega), show (((t ||| 2 ^ k : Nat)) : Int) % 256 = ((t ||| 2 ^ k : Nat) : Int) by omega, iI_cl (by omega) (by omega), iI_cl (by omega) (by omega), Int.toNat_natCast, iI_in (by omega) (by omega), iI_in (by omega) (by omega), show (8 * (p : Int) + (k : Int)).toNat = 8 * p + k by omega, hO.2.2.2.2.1 p k hp hk, hs, iI_add]
  exact ⟨fun z => absurd ((iI_lt (b := 0) (by omega) (by omega) (by omega) (by omega)).mp z) (by omega), fun _ => ⟨fun z => absurd ((iI_le (a := 64) (by omega) (by omega) (by omega) (by omega)).mp z) (by omega), fun _ => ⟨by omega, by omega, h⟩⟩⟩
theorem S_leastBehind (m : am_M) (Q : Option Value → am_M → Prop) (n C : Nat) (w : Nat → Nat → Nat) (hO : CO m n C w) (t : Nat) (ht : t < 256) (hG : ∀ s, t < s → s < 256 → LG m n C w s) (h : Q (some (.int (iI ((if n ≤ pcn t then 0 else lmn (fun k => w (pcn t) k + lsv m (t ||| 2 ^ k)) (fun k => !t.testBit k) C : Nat) : Int)))) m) : am_WP YL 12 0 0 0 [some (.ref 91), some (.int (iI (t : Int))), none, none, none] [] m Q := by
  have hC := hO.2.2.2.1
  have hnC := hO.2.2.1
  have pl : pcn t ≤ 32 := fb_ct_le _ 32
  refine B_X0_leastBehind_0 m Q _ (S_pop32 m _ t (by omega) (B_X0_leastBehind_4 m Q _ _ ?_))
  rw [show fb_ct (fun i => t.testBit i) 32 = pcn t from rfl, hO.1, iI_lt (by omega) (by omega) (by omega) (by omega)]
  refine ⟨fun z => ?_, fun z => by rw [if_pos (by omega)] at h; exact h⟩
  rw [if_neg (by omega)] at h
  have lb := lmn_le (fun k => w (pcn t) k + lsv m (t ||| 2 ^ k)) (fun k => !t.testBit k)
  have := lp (N := C) (W := fun k (_ : Unit) => am_WP YL 12 0 0 21 [some (.ref 91), some (.int (iI (t : Int))), some (.int (iI (pcn t : Int))), some (.int (iI ((lmn (fun k => w (pcn t) k + lsv m (t ||| 2 ^ k)) (fun k => !t.testBit k) k : Nat) : Int))), some (.int (iI (k : Int)))] [] m Q) (fun _ _ => True) (s := ()) trivial ?_ ?_
  · exact this
  · intro k _ hk _ ih
    have ih := ih () trivial
    have lbk := lb k
    refine B_X0_leastBehind_21 m Q _ _ _ _ ?_
    rw [hO.2.1, show ((iI (t : Int) >>> (iI (k : Int) &&& 31)) &&& (1 : Int32)) = 0 ↔ t.testBit k = false from iI_tb (by omega) (by omega), iI_i1]
    refine ⟨fun y => absurd ((iI_le (by omega) (by omega) (by omega) (by omega)).mp y) (by omega), fun _ => ⟨fun y => absurd ((iI_le (a := 8) (by omega) (by omega) (by omega) (by omega)).mp y) (by omega), fun _ => ⟨fun y => ?_, fun y => ?_⟩⟩⟩
    · have e : lmn (fun k => w (pcn t) k + lsv m (t ||| 2 ^ k)) (fun k => !t.testBit k) (k + 1) = lmn (fun k => w (pcn t) k + lsv m (t ||| 2 ^ k)) (fun k => !t.testBit k) k := by
        unfold lmn
        rw [if_neg (fun x => by
          have := x.1
          cases hb : t.testBit k
          · exact y hb
          · rw [hb] at this; cases this)]
        cases k <;> rfl
      rw [e] at ih
      exact ih
    · have og := or_gt y
      have ol := or_lt ht (show k < 8 by omega)
      have lg := hG _ og ol
      have wb := hO.2.2.2.2.2 (pcn t) k
      refine S_sumWith m _ n C w hO t (pcn t) k ht (by omega) hk y lg.1 (B_X0_leastBehind_55 m Q _ _ _ _ _ ?_)
      rw [iI_i1]
      have l1 := lg.2.1
      have e : lmn (fun k => w (pcn t) k + lsv m (t ||| 2 ^ k)) (fun k => !t.testBit k) (k + 1) = if w (pcn t) k + lsv m (t ||| 2 ^ k) < lmn (fun k => w (pcn t) k + lsv m (t ||| 2 ^ k)) (fun k => !t.testBit k) k then w (pcn t) k + lsv m (t ||| 2 ^ k) else lmn (fun k => w (pcn t) k + lsv m (t ||| 2 ^ k)) (fun k => !t.testBit k) k := by
        show (if _ ∧ _ then _ else _) = _
        by_cases c : w (pcn t) k + lsv m (t ||| 2 ^ k) < lmn (fun k => w (pcn t) k + lsv m (t ||| 2 ^ k)) (fun k => !t.testBit k) k
        · rw [if_pos c, if_pos ⟨by show (!t.testBit k) = true; rw [y]; rfl, c⟩]
        · rw [if_neg c, if_neg (fun x => c x.2)]
      rw [e] at ih
      simp (disch := omega) only [iI_lt, iI_ite]
      have e2 : (if ((w (pcn t) k + lsv m (t ||| 2 ^ k) : Nat) : Int) < ((lmn (fun k => w (pcn t) k + lsv m (t ||| 2 ^ k)) (fun k => !t.testBit k) k : Nat) : Int) then ((w (pcn t) k + lsv m (t ||| 2 ^ k) : Nat) : Int) else ((lmn (fun k => w (pcn t) k + lsv m (t ||| 2 ^ k)) (fun k => !t.testBit k) k : Nat) : Int)) = ((if w (pcn t) k + lsv m (t ||| 2 ^ k) < lmn (fun k => w (pcn t) k + lsv m (t ||| 2 ^ k)) (fun k => !t.testBit k) k then w (pcn t) k + lsv m (t ||| 2 ^ k) else lmn (fun k => w (pcn t) k + lsv m (t ||| 2 ^ k)) (fun k => !t.testBit k) k : Nat) : Int) := by
        split <;> split <;> omega
      rw [e2]
      exact ih
  · intro _ _
    refine B_X0_leastBehind_21 m Q _ _ _ _ ?_
    rw [hO.2.1]
    exact ⟨fun _ => h, fun y => absurd ((iI_le (by omega) (by omega) (by omega) (by omega)).mpr (Int.le_refl _)) y⟩
theorem S_firstLeast (m : am_M) (Q : Option Value → am_M → Prop) (n C : Nat) (w : Nat → Nat → Nat) (hO : CO m n C w) (t p : Nat) (ht : t < 256) (hp : pcn t = p) (hpn : p < n) (hG : ∀ s, s < 256 → LG m n C w s) (hx : ∃ k, k < C ∧ t.testBit k = false ∧ w p k + lsv m (t ||| 2 ^ k) = lsv m t)
    (h : ∀ k, k < C → t.testBit k = false → w p k + lsv m (t ||| 2 ^ k) = lsv m t → (∀ j, j < k → t.testBit j = false → w p j + lsv m (t ||| 2 ^ j) ≠ lsv m t) → Q (some (.int (iI (k : Int)))) m) : am_WP YL 14 0 0 0 [some (.ref 91), some (.int (iI (t : Int))), none, none] [] m Q := by
  have hC := hO.2.2.2.1
  have hnC := hO.2.2.1
  refine B_X0_firstLeast_0 m Q _ (S_pop32 m _ t (by omega) (B_X0_firstLeast_4 m Q _ _ ?_))
  rw [show fb_ct (fun i => t.testBit i) 32 = p from hp]
  have := lp (N := C) (W := fun k (_ : Unit) => am_WP YL 14 0 0 7 [some (.ref 91), some (.int (iI (t : Int))), some (.int (iI (p : Int))), some (.int (iI (k : Int)))] [] m Q) (fun k _ => ∀ j, j < k → t.testBit j = false → w p j + lsv m (t ||| 2 ^ j) ≠ lsv m t) (s := ()) (fun j hj => absurd hj (Nat.not_lt_zero j)) ?_ ?_
  · exact this
  · intro k _ hk hI ih
    refine B_X0_firstLeast_7 m Q _ _ _ ?_
    rw [hO.2.1, show ((iI (t : Int) >>> (iI (k : Int) &&& 31)) &&& (1 : Int32)) = 0 ↔ t.testBit k = false from iI_tb (by omega) (by omega), iI_i1]
    have nx : (t.testBit k = false → w p k + lsv m (t ||| 2 ^ k) ≠ lsv m t) → am_WP YL 14 0 0 7 [some (.ref 91), some (.int (iI (t : Int))), some (.int (iI (p : Int))), some (.int (iI ((k : Int) + 1)))] [] m Q := by
      intro z
      refine ih () (fun j hj hb => ?_)
      by_cases c : j = k
      · rw [c] at hb ⊢
        exact z hb
      · exact hI j (by omega) hb
    refine ⟨fun y => absurd ((iI_le (by omega) (by omega) (by omega) (by omega)).mp y) (by omega), fun _ => ⟨fun y => absurd ((iI_le (a := 8) (by omega) (by omega) (by omega) (by omega)).mp y) (by omega), fun _ => ⟨fun y => nx (fun x => absurd x y), fun y => ?_⟩⟩⟩
    have ol := or_lt ht (show k < 8 by omega)
    have lg := hG _ ol
    have lt := hG t ht
    have wb := hO.2.2.2.2.2 p k
    have l1 := lg.2.1
    have l2 := lt.2.1
    refine S_sumWith m _ n C w hO t p k ht hpn hk y lg.1 (B_X0_firstLeast_36 m Q _ _ _ _ ?_)
    rw [show (255 : Int32) = iI 255 from rfl, iI_m255 (by omega) (by omega), show ((t : Nat) : Int) % 256 = (t : Int) by omega, iI_cl (by omega) (by omega), Int.toNat_natCast, iI_in (by omega) (by omega), lt.1, iI_eq (by omega) (by omega) (by omega) (by omega), iI_i1]
    exact ⟨by omega, fun x => nx (fun _ => by omega), fun x => h k hk y (by omega) hI⟩
  · intro _ hI
    obtain ⟨k, h1, h2, h3⟩ := hx
    exact absurd h3 (hI k h1 h2)
theorem S_assign (m : am_M) (Q : Option Value → am_M → Prop) (n C : Nat) (w : Nat → Nat → Nat) (hO : CO m n C w) (fr : Nat → Nat) (hfr : ∀ p, p < n → m.1 94 p = iI (fr p : Int) ∧ fr p < 20) (hfd : ∀ p q, p < q → q < n → fr p ≠ fr q)
    (h0 : ∀ m1, Ag [96] m m1 → (∀ f, ¬ feas n C w f) → Q (some (.int (-1))) m1)
    (h1 : ∀ m1 kk S, Ag [93, 96] m m1 → AS n C w kk S → S ≤ 10000000 → (∀ p, p < n → m1.1 93 (fr p) = iI (kk p : Int)) → (∀ f, f < 20 → (∀ p, p < n → fr p ≠ f) → m1.1 93 f = -1) → Q (some (.int (iI (S : Int)))) m1) :
    am_WP YL 11 0 0 0 [some (.ref 91), none, none, none] [] m Q := by
  have hC := hO.2.2.2.1
  have hnC := hO.2.2.1
  have COf : ∀ m1, m1.1 91 = m.1 91 → m1.1 95 = m.1 95 → CO m1 n C w := by
    intro m1 e1 e2
    unfold CO
    rw [e1, e2]
    exact hO
  refine B_X0_assign_0 m Q ?_
  -- the walk of the greedy
  have greedy : ∀ m0, Ag [96] m m0 → (∀ s, s < 256 → LG m0 n C w s) → lsv m0 0 < 10000000 → ∀ (d p t : Nat) (kk mk : Nat → Nat) (m1 : am_M), p + d = n → Ag [93, 96] m m1 → m1.1 96 = m0.1 96 → mk 0 = 0 → mk p = t → (∀ q, q < p → mk (q + 1) = mk q ||| 2 ^ kk q ∧ kk q < C ∧ (mk q).testBit (kk q) = false ∧ w q (kk q) + lsv m0 (mk q ||| 2 ^ kk q) = lsv m0 (mk q) ∧ ∀ j, j < kk q → (mk q).testBit j = false → w q j + lsv m0 (mk q ||| 2 ^ j) ≠ lsv m0 (mk q)) → t < 256 → pcn t = p → lsv m0 t < 10000000 → (∀ q, q < p → m1.1 93 (fr q) = iI (kk q : Int)) → (∀ f, f < 20 → (∀ q, q < p → fr q ≠ f) → m1.1 93 f = -1) → am_WP YL 11 0 0 50 [some (.ref 91), some (.int (iI (t : Int))), some (.int (iI (p : Int))), none] [] m1 Q := by
    intro m0 f0 lg0 l00 d
    have hLT : LT n C w (lsv m0) := fun t ht => (lg0 t ht).2.2
    induction d with
    | zero =>
      intro p t kk mk m1 hd f1 e96 hmk0 hmkp hst ht hpc hlt hg1 hg2
      obtain rfl : p = n := by omega
      have e91 : m1.1 91 = m.1 91 := f1.I (by decide)
      refine B_X0_assign_50 m1 Q _ _ ?_
      rw [show (0 : Int32).toNatClampNeg = 0 from rfl, e96, (lg0 0 (by decide)).1, e91, hO.1]
      have l0 := (lg0 0 (by decide)).2.1
      have res := h1 m1 kk (lsv m0 0) f1 (GW_AS hC (by omega) hLT hO.2.2.2.2.2 ⟨hmk0, hst⟩ l00) l0 hg1 hg2
      exact ⟨fun _ => res, fun y => absurd ((iI_le (by omega) (by omega) (by omega) (by omega)).mpr (Int.le_refl _)) y⟩
    | succ d ih =>
      intro p t kk mk m1 hd f1 e96 hmk0 hmkp hst ht hpc hlt hg1 hg2
      have e91 : m1.1 91 = m.1 91 := f1.I (by decide)
      have e95 : m1.1 95 = m.1 95 := f1.I (by decide)
      have els : ∀ s, lsv m1 s = lsv m0 s := fun s => by unfold lsv; rw [e96]
      have lg1 : ∀ s, s < 256 → LG m1 n C w s := by
        intro s hs
        have := lg0 s hs
        unfold LG at this ⊢
        rw [e96, els, show (fun k => w (pcn s) k + lsv m1 (s ||| 2 ^ k)) = (fun k => w (pcn s) k + lsv m0 (s ||| 2 ^ k)) from funext (fun k => by rw [els])]
        exact this
      have ex := GW_ex hC hnC hLT ht hpc (by omega) hlt
      refine B_X0_assign_50 m1 Q _ _ ?_
      rw [e91, hO.1]
      refine ⟨fun y => absurd ((iI_le (by omega) (by omega) (by omega) (by omega)).mp y) (by omega), fun _ => ⟨fun y => absurd ((iI_le (a := 8) (by omega) (by omega) (by omega) (by omega)).mp y) (by omega), fun _ => ?_⟩⟩
      refine S_firstLeast m1 _ n C w (COf m1 e91 e95) t p ht hpc (by omega) lg1 (by
        obtain ⟨k, k1, k2, k3⟩ := ex
        exact ⟨k, k1, k2, by rw [els, els]; exact k3⟩) (fun k k1 k2 k3 k4 => B_X0_assign_69 m1 Q _ _ _ ?_)
      have hf := hfr p (by omega)
      rw [iI_cl (by omega) (by omega), Int.toNat_natCast, iI_in (by omega) (by omega), f1.I (show 94 ∉ _ by decide), hf.1]
      have f20 := hf.2
      refine ⟨by omega, B_X0_give_0 m1 _ _ _ ?_⟩
      rw [iI_cl (by omega) (by omega), Int.toNat_natCast]
      refine ⟨fun y => absurd ((iI_lt (b := 0) (by omega) (by omega) (by omega) (by omega)).mp y) (by omega), fun _ => ⟨fun y => absurd ((iI_le (a := 20) (by omega) (by omega) (by omega) (by omega)).mp y) (by omega), fun _ => ⟨(iI_in (by omega) (by omega)).mpr (by omega), B_X0_assign_81 _ Q _ _ _ ?_⟩⟩⟩
      have ol := or_lt ht (show k < 8 by omega)
      have hpw : 2 ^ k < 2 ^ 8 := Nat.pow_lt_pow_right (by decide) (by omega)
      rw [iI_sh1 (show k < 31 by omega), iI_or (by omega) (by omega), iI_i1]
      rw [els, els] at k3
      have := ih (p + 1) (t ||| 2 ^ k) (fun q => if q = p then k else kk q) (fun q => if q = p + 1 then t ||| 2 ^ k else mk q) (am_pI m1 93 (fr p) (iI (k : Int))) (by omega) (f1.pI (by decide) _ _) (by rw [am_pI_ne (by decide)]; exact e96) (by rw [if_neg (by omega)]; exact hmk0) (if_pos rfl) (fun q hq => ?_) ol (by rw [pcn_or (by omega) k2, hpc]) (by omega) (fun q hq => ?_) (fun f hf2 hz => ?_)
      · exact this
      · by_cases c : q = p
        · subst c
          rw [if_pos rfl, if_pos rfl, if_neg (by omega), hmkp]
          refine ⟨rfl, k1, k2, k3, fun j hj hb => ?_⟩
          have := k4 j hj hb
          rw [els, els] at this
          exact this
        · rw [if_neg (by omega), if_neg c, if_neg (by omega)]
          exact hst q (by omega)
      · rw [am_pI_at]
        by_cases c : q = p
        · subst c
          rw [if_pos rfl, if_pos rfl]
        · have : fr q ≠ fr p := by
            have := hfd q p (by omega) (by omega)
            exact this
          rw [if_neg this, if_neg c]
          exact hg1 q (by omega)
      · rw [am_pI_at, if_neg (fun e => hz p (by omega) e.symm)]
        exact hg2 f hf2 (fun q hq => hz q (by omega))
  -- the table, from the greatest set down
  have table : ∀ (d t : Nat) (m1 : am_M), t = d → d ≤ 256 → Ag [96] m m1 → (∀ s, t ≤ s → s < 256 → LG m1 n C w s) → am_WP YL 11 0 0 4 [some (.ref 91), some (.int (iI ((t : Int) - 1))), none, none] [] m1 Q := by
    intro d
    induction d with
    | zero =>
      intro t m1 hd _ f1 lg
      subst hd
      have l0 := lg 0 (Nat.le_refl _) (by decide)
      have l0b := l0.2.1
      refine B_X0_assign_4 m1 Q _ ⟨fun _ => ?_, fun y => absurd ((iI_lt (b := 0) (by omega) (by omega) (by omega) (by omega)).mpr (by omega)) y⟩
      have hLT : LT n C w (lsv m1) := fun t ht => (lg t (Nat.zero_le _) ht).2.2
      rw [show (0 : Int32).toNatClampNeg = 0 from rfl, l0.1, show (10000000 : Int32) = iI 10000000 from rfl, iI_lt (by omega) (by omega) (by omega) (by omega)]
      refine ⟨fun y => S_fillI m1 _ 93 20 rfl rfl (by decide) (-1) (B_X0_assign_46 _ Q ?_), fun y => h0 m1 f1 (LT_no hC (by omega) hLT (by omega))⟩
      have := greedy m1 f1 (fun s hs => lg s (Nat.zero_le _) hs) (by omega) n 0 0 (fun _ => 0) (fun _ => 0) (am_wI m1 93 (am_fx 20 (fun _ => -1) (m1.1 93))) (by omega) ((f1.sub (by decide)).wI (by decide) _) (by rw [am_wI_ne (by decide)]) rfl rfl (fun q hq => absurd hq (Nat.not_lt_zero q)) (by decide) (by decide) (by omega) (fun q hq => absurd hq (Nat.not_lt_zero q)) (fun f hf _ => by rw [am_wI_at, am_fx_lt hf])
      exact this
    | succ d ih =>
      intro t m1 hd hd2 f1 lg
      subst hd
      have e91 : m1.1 91 = m.1 91 := f1.I (by decide)
      have e95 : m1.1 95 = m.1 95 := f1.I (by decide)
      have hO1 := COf m1 e91 e95
      rw [show ((d + 1 : Nat) : Int) - 1 = (d : Int) by omega]
      refine B_X0_assign_4 m1 Q _ ⟨fun y => absurd ((iI_lt (b := 0) (by omega) (by omega) (by omega) (by omega)).mp y) (by omega), fun _ => ?_⟩
      refine S_leastBehind m1 _ n C w hO1 d (by omega) (fun s h1 h2 => lg s h1 h2) (B_X0_assign_18 m1 Q _ 96 256 rfl rfl _ _ ?_)
      rw [iI_cl (by omega) (by omega), Int.toNat_natCast, iI_in (by omega) (by omega), show (-1 : Int32) = iI (-1) from rfl, iI_add, show (d : Int) + -1 = (d : Int) - 1 by omega]
      obtain ⟨v, hv⟩ : ∃ v, v = (if n ≤ pcn d then 0 else lmn (fun k => w (pcn d) k + lsv m1 (d ||| 2 ^ k)) (fun k => !d.testBit k) C) := ⟨_, rfl⟩
      have vb : v ≤ 10000000 := by
        rw [hv]
        split
        · omega
        · exact lmn_le _ _ C
      rw [← hv]
      refine ⟨by omega, ih d _ rfl (by omega) (f1.pI (by decide) _ _) (fun s hs1 hs2 => ?_)⟩
      have ev : ∀ x, lsv (am_pI m1 96 d (iI (v : Int))) x = if x = d then v else lsv m1 x := by
        intro x
        unfold lsv
        rw [am_pI_at]
        by_cases c : x = d
        · rw [if_pos c, if_pos c, iI_to (by omega) (by omega), Int.toNat_natCast]
        · rw [if_neg c, if_neg c]
      have el : ∀ x k, d ≤ x → x.testBit k = false → lsv (am_pI m1 96 d (iI (v : Int))) (x ||| 2 ^ k) = lsv m1 (x ||| 2 ^ k) := by
        intro x k hx hb
        have := or_gt hb
        rw [ev, if_neg (by omega)]
      have elm : ∀ x, d ≤ x → lmn (fun k => w (pcn x) k + lsv (am_pI m1 96 d (iI (v : Int))) (x ||| 2 ^ k)) (fun k => !x.testBit k) C = lmn (fun k => w (pcn x) k + lsv m1 (x ||| 2 ^ k)) (fun k => !x.testBit k) C := by
        intro x hx
        apply lmn_cong
        · intro j _; rfl
        · intro j _ hj
          have : x.testBit j = false := by cases hb : x.testBit j; rfl; rw [hb] at hj; cases hj
          rw [el x j hx this]
      unfold LG
      rw [elm s hs1, ev, am_pI_at]
      by_cases c : s = d
      · rw [if_pos c, if_pos c, c]
        exact ⟨rfl, vb, hv⟩
      · rw [if_neg c, if_neg c]
        exact lg s (by omega) hs2
  have := table 256 256 m rfl (Nat.le_refl _) (Ag.rf _ m) (fun s h1 h2 => by omega)
  exact this
