/-! ===== the towers of the class ===== -/
def cto (m : am_M) (t : Int) : Bool := decide (0 ≤ t ∧ t < (m.1 9 9).toInt ∧ t < 8)
theorem S_tIsOne (m : am_M) (Q : Option Value → am_M → Prop) (t : Int) (hbt : -2147483648 ≤ t ∧ t ≤ 2147483647) (h : Q (some (.int (bI (cto m t)))) m) : am_WP YL 80 0 0 0 [some (.ref 9), some (.int (iI t))] [] m Q := by
  refine B_X7_isOne_0 m Q _ ?_
  have b := iI_b (m.1 9 9)
  rw [← iI_self (m.1 9 9)]
  simp (disch := omega) only [iI_lit, iI_ofNat, iI_neg, iI_add, iI_sub, iI_mul, iI_lt, iI_le, iI_eq, iI_in, iI_cl]
  unfold cto at h
  refine ⟨fun z => ?_, fun z => ⟨fun y => ?_, fun y => ⟨fun x => ?_, fun x => ?_⟩⟩⟩
  · rw [decide_eq_false (by omega)] at h
    exact h
  · rw [decide_eq_false (by omega)] at h
    exact h
  · rw [decide_eq_false (by omega)] at h
    exact h
  · rw [decide_eq_true (by omega)] at h
    exact h
theorem S_base (m : am_M) (Q : Option Value → am_M → Prop) (t : Nat) (ht : cto m t = true) (h : Q (some (.int (m.1 10 t))) m) : am_WP YL 81 0 0 0 [some (.ref 9), some (.int (iI (t : Int)))] [] m Q := by
  have h0 := of_decide_eq_true ht
  refine B_X7_base_0 m Q _ (S_tIsOne m _ t (by omega) ?_)
  refine B_X7_base_5 m Q _ _ (bz (fun z => by rw [ht] at z; cases z) (fun _ => ?_))
  simp (disch := omega) only [iI_lit, iI_ofNat, iI_neg, iI_add, iI_sub, iI_mul, iI_lt, iI_le, iI_eq, iI_in, iI_cl, Int.toNat_natCast]
  exact ⟨by omega, h⟩
theorem S_above (m : am_M) (Q : Option Value → am_M → Prop) (t : Nat) (ht : cto m t = true) (h : Q (some (.int (m.1 11 t))) m) : am_WP YL 82 0 0 0 [some (.ref 9), some (.int (iI (t : Int)))] [] m Q := by
  have h0 := of_decide_eq_true ht
  refine B_X7_above_0 m Q _ (S_tIsOne m _ t (by omega) ?_)
  refine B_X7_above_5 m Q _ _ (bz (fun z => by rw [ht] at z; cases z) (fun _ => ?_))
  simp (disch := omega) only [iI_lit, iI_ofNat, iI_neg, iI_add, iI_sub, iI_mul, iI_lt, iI_le, iI_eq, iI_in, iI_cl, Int.toNat_natCast]
  exact ⟨by omega, h⟩
theorem S_forget (m : am_M) (Q : Option Value → am_M → Prop) (h : ∀ m1, Ag [9, 12] m m1 → (∀ j, j ≠ 7 → j ≠ 8 → m1.1 9 j = m.1 9 j) → m1.1 9 7 = 0 → m1.1 9 8 = -2 → (∀ t, t < 8 → m1.1 12 t = 0) → Q none m1) : am_WP YL 84 0 0 0 [some (.ref 9), none] [] m Q := by
  refine B_X7_forget_0 m Q ?_
  have := lp (N := 8) (W := fun k m1 => am_WP YL 84 0 0 2 [some (.ref 9), some (.int (iI (k : Int)))] [] m1 Q) (fun k m1 => Ag [9, 12] m m1 ∧ m1.1 9 = m.1 9 ∧ ∀ t, t < k → m1.1 12 t = 0) (s := m) ⟨Ag.rf _ m, rfl, fun f hf => absurd hf (Nat.not_lt_zero f)⟩ ?_ ?_
  · exact this
  · rintro k m1 hk ⟨f1, b1, b3⟩ ih
    refine B_X7_forget_2 m1 Q _ ?_
    simp (disch := omega) only [iI_lit, iI_ofNat, iI_neg, iI_add, iI_sub, iI_mul, iI_lt, iI_le, iI_eq, iI_in, iI_cl, Int.toNat_natCast]
    refine ⟨fun z => by omega, fun _ => ⟨by omega, ih _ ⟨f1.pI (by decide) _ _, ?_, ?_⟩⟩⟩
    · rw [am_pI_ne (by decide)]; exact b1
    · intro j hj
      rw [am_pI_at]
      by_cases c : j = k
      · rw [if_pos c]; rfl
      · rw [if_neg c]; exact b3 j (by omega)
  · rintro m1 ⟨f1, b1, b3⟩
    refine B_X7_forget_2 m1 Q _ ⟨fun _ => B_X7_forgetUnseen_0 m1 _ (B_X7_forget_25 _ Q ?_), fun z => absurd (show (8 : Int32) ≤ iI ((8 : Nat) : Int) by decide) z⟩
    refine h _ ((f1.pI (by decide) _ _).pI (by decide) _ _) ?_ ?_ ?_ ?_
    · intro j h7 h8
      rw [am_pI_at, if_neg h8, am_pI_at, if_neg h7, b1]
    · rw [am_pI_at, if_neg (by decide), am_pI_at, if_pos rfl]
    · rw [am_pI_at, if_pos rfl]
    · intro t ht
      rw [am_pI_ne (by decide), am_pI_ne (by decide)]
      exact b3 t ht
theorem S_tTake (m : am_M) (Q : Option Value → am_M → Prop) (h : ∀ m1, Ag [9, 12] m m1 → m1.1 9 9 = 0 → m1.1 9 7 = 0 → m1.1 9 8 = -2 → (∀ t, t < 8 → m1.1 12 t = 0) → Q none m1) : am_WP YL 83 0 0 0 [some (.ref 9)] [] m Q := by
  refine B_X7_takeAway_0 m Q (S_forget _ _ (fun m1 f1 a1 a2 a3 a4 => B_X7_takeAway_9 m1 Q ?_))
  refine h m1 (((Ag.rf [9, 12] m).pI (by decide) _ _).tr f1) ?_ a2 a3 a4
  rw [a1 9 (by decide) (by decide), am_pI_at, if_pos rfl]
theorem S_build (m : am_M) (Q : Option Value → am_M → Prop) (n : Nat) (hn : n < 8) (h9 : m.1 9 9 = iI (n : Int)) (x y : Int32) (h : ∀ m1, Ag [9, 10, 11, 12] m m1 → m1.1 9 9 = iI ((n + 1 : Nat) : Int) → m1.1 9 7 = 0 → m1.1 9 8 = -2 → (∀ t, m1.1 10 t = if t = n then x else m.1 10 t) → (∀ t, m1.1 11 t = if t = n then y else m.1 11 t) → (∀ t, m1.1 12 t = if t = n then 0 else m.1 12 t) → Q (some (.int (iI (n : Int)))) m1) : am_WP YL 86 0 0 0 [some (.ref 9), some (.int x), some (.int y)] [] m Q := by
  have A : Ag [9, 10, 11, 12] m m := Ag.rf _ m
  have e : (iI (n : Int)).toNatClampNeg = n := by rw [iI_cl (by omega) (by omega), Int.toNat_natCast]
  have v : vp_in (iI (n : Int)) 8 := (iI_in (by omega) (by omega)).mpr (by omega)
  refine D_X7_build_0 m Q _ _ ?_
  rw [h9]
  refine ⟨fun z => absurd ((iI_lt (b := 0) (by omega) (by omega) (by omega) (by omega)).mp z) (by omega), fun _ => ⟨fun _ => ⟨v, ?_⟩, fun z => absurd ((iI_lt (b := 8) (by omega) (by omega) (by omega) (by omega)).mpr (by omega)) z⟩⟩
  rw [e]
  refine D_X7_build_28 _ Q _ ?_
  rw [am_pI_ne (by decide), h9]
  refine ⟨v, ?_⟩
  rw [e]
  refine D_X7_build_38 _ Q ?_
  rw [am_pI_ne (by decide), am_pI_ne (by decide), h9]
  refine ⟨v, ?_⟩
  rw [e]
  refine D_X7_build_48 _ Q (B_X7_forgetUnseen_0 _ _ (D_X7_build_52 _ Q ?_))
  refine D_X7_build_62 _ Q ?_
  have e9 : (am_pI (am_pI (am_pI (am_pI (am_pI m 10 n x) 11 n y) 12 n 0) 9 7 0) 9 8 (-2)).1 9 9 = iI (n : Int) := by
    rw [am_pI_at, if_neg (by decide), am_pI_at, if_neg (by decide), am_pI_ne (by decide), am_pI_ne (by decide), am_pI_ne (by decide), h9]
  rw [e9, am_pI_at, if_pos rfl, show (1 : Int32) = iI 1 from rfl, iI_add, iI_sub, show (n : Int) + 1 - 1 = (n : Int) by omega]
  refine h _ ((((((A.pI (by decide) _ _).pI (by decide) _ _).pI (by decide) _ _).pI (by decide) _ _).pI (by decide) _ _).pI (by decide) _ _) ?_ ?_ ?_ ?_ ?_ ?_
  · rw [am_pI_at, if_pos rfl]
    rfl
  · rw [am_pI_at, if_neg (by decide), am_pI_at, if_neg (by decide), am_pI_at, if_pos rfl]
  · rw [am_pI_at, if_neg (by decide), am_pI_at, if_pos rfl]
  · intro t
    rw [am_pI_ne (by decide), am_pI_ne (by decide), am_pI_ne (by decide), am_pI_ne (by decide), am_pI_ne (by decide), am_pI_at]
  · intro t
    rw [am_pI_ne (by decide), am_pI_ne (by decide), am_pI_ne (by decide), am_pI_ne (by decide), am_pI_at, am_pI_ne (by decide)]
  · intro t
    rw [am_pI_ne (by decide), am_pI_ne (by decide), am_pI_ne (by decide), am_pI_at, am_pI_ne (by decide), am_pI_ne (by decide)]
theorem S_buildNo (m : am_M) (Q : Option Value → am_M → Prop) (h9 : m.1 9 9 = 8) (x y : Int32) (h : Q (some (.int (-1))) m) : am_WP YL 86 0 0 0 [some (.ref 9), some (.int x), some (.int y)] [] m Q := by
  refine D_X7_build_0 m Q _ _ ?_
  rw [h9]
  exact ⟨fun z => absurd z (by decide), fun _ => ⟨fun z => absurd z (by decide), fun _ => h⟩⟩
theorem cf_fr {m m1 : am_M} (h8 : m1.2.1 8 = m.2.1 8) (h5 : m1.1 5 = m.1 5) (f : Nat) (up : Int) (t : Nat) : cf m1 f up t = cf m f up t := by
  unfold cf
  rw [h8, h5]
noncomputable def csee (m : am_M) (f : Nat) (up : Int) (q : Nat) : Bool := wb (m.2.1 8) q && decide (cf m f up q = -1)
theorem csee_fr {m m1 : am_M} (h8 : m1.2.1 8 = m.2.1 8) (h5 : m1.1 5 = m.1 5) (f : Nat) (up : Int) (q : Nat) : csee m1 f up q = csee m f up q := by
  unfold csee
  rw [cf_fr h8 h5, h8]
theorem S_tLook (m : am_M) (Q : Option Value → am_M → Prop) (a : Nat) (ha : sw_sq m a) (ha7 : a ≠ 7) (f : Nat) (hf : f < 256) (up : Int) (hu : up.natAbs ≤ 100) (hh : ∀ k, k < 256 → ((m.1 5 k).toInt).natAbs ≤ 3000)
    (h : ∀ m1, Ag [a + 1] m m1 → (∀ q, q < 256 → wb (m1.2.1 (a + 1)) q = csee m f up q) → Q none m1) : am_WP YL 88 0 0 0 [some (.ref 9), some (.ref a), some (.int (iI (f : Int))), some (.int (iI up)), none] [] m Q := by
  refine B_X7_look_0 m Q a ha _ _ (S_empty m _ a ha (B_X7_look_4 _ Q a (by exact ha) _ _ ?_))
  have := lp (N := 256) (W := fun k m1 => am_WP YL 88 0 0 7 [some (.ref 9), some (.ref a), some (.int (iI (f : Int))), some (.int (iI up)), some (.int (iI (k : Int)))] [] m1 Q) (fun k m1 => Ag [a + 1] m m1 ∧ ∀ q, q < 256 → wb (m1.2.1 (a + 1)) q = (decide (q < k) && csee m f up q)) (s := am_wJ m (a + 1) (am_fx 4 (fun _ => 0) (m.2.1 (a + 1)))) ⟨(Ag.rf _ _).wJ (List.mem_singleton.mpr rfl) _, ?_⟩ ?_ ?_
  · exact this
  · intro q hq
    rw [am_wJ_at, wb_fx hq, wb_zero, decide_eq_false (Nat.not_lt_zero q), Bool.false_and]
  · rintro k m1 hk ⟨a1, a2⟩ ih
    have e8 : m1.2.1 8 = m.2.1 8 := a1.J (fun z => ha7 (by have := List.mem_singleton.mp z; omega))
    have e5 : m1.1 5 = m.1 5 := by
      by_cases c : 5 ∈ [a + 1]
      · have c := List.mem_singleton.mp c
        obtain rfl : a = 4 := by omega
        exact absurd ha.1 (show ¬ ((9, 0) : Nat × Nat) = (6, 0) by decide)
      · exact a1.I c
    have hs : sw_sq m1 a := a1.sq ha
    have skip : csee m f up k = false → am_WP YL 88 0 0 7 [some (.ref 9), some (.ref a), some (.int (iI (f : Int))), some (.int (iI up)), some (.int (iI ((k : Int) + 1)))] [] m1 Q := by
      intro z
      refine ih m1 ⟨a1, fun q hq => ?_⟩
      rw [a2 q hq]
      by_cases c : q = k
      · rw [c, z, Bool.and_false, Bool.and_false]
      · rw [show decide (q < k + 1) = decide (q < k) from decide_eq_decide.mpr (by omega)]
    have ec : csee m f up k = (wb (m1.2.1 8) k && decide (cf m1 f up k = -1)) := by
      rw [cf_fr e8 e5, e8]
      rfl
    refine B_X7_look_7 m1 Q a hs _ _ _ ⟨fun z => absurd ((iI_le (a := 256) (by omega) (by omega) (by omega) (by omega)).mp z) (by omega), fun _ => ?_⟩
    refine B_X9_there_0 m1 _ (B_X7_look_22r m1 Q a hs _ _ _ 7 (sq_7 m1) (S_has m1 _ 7 (sq_7 m1) k hk ?_))
    refine B_X7_look_27 m1 Q a hs _ _ _ _ (bz (fun z => ?_) (fun z => ?_))
    · rw [iI_i1]
      exact skip (by rw [ec, show wb (m1.2.1 8) k = false from z]; rfl)
    · refine S_fh m1 _ f k hf hk up hu (by rw [e5]; exact hh) (fun g1 g2 => ?_)
      refine B_X7_look_41 m1 Q a hs _ _ _ _ ?_
      rw [show (-1 : Int32) = iI (-1) from rfl, iI_eq (by omega) (by omega) (by omega) (by omega), iI_i1]
      refine ⟨fun y => skip (by rw [ec, decide_eq_false y, Bool.and_false]), fun y => S_put m1 _ a hs k hk (fun g hg => ?_)⟩
      refine B_X7_look_51 _ Q a (by exact hs) _ _ _ ?_
      rw [iI_i1]
      refine ih _ ⟨a1.wJ (List.mem_singleton.mpr rfl) _, fun q hq => ?_⟩
      rw [am_wJ_at, hg q hq, a2 q hq]
      by_cases c : q = k
      · rw [c, ec, show wb (m1.2.1 8) k = true from z, decide_eq_true y, decide_eq_true rfl, Bool.or_true, decide_eq_true (Nat.lt_succ_self k)]
        rfl
      · rw [show decide (q < k + 1) = decide (q < k) from decide_eq_decide.mpr (by omega), decide_eq_false c, Bool.or_false]
  · rintro m1 ⟨a1, a2⟩
    have hs : sw_sq m1 a := a1.sq ha
    refine B_X7_look_7 m1 Q a hs _ _ _ ⟨fun _ => h m1 a1 (fun q hq => ?_), fun z => absurd (show (256 : Int32) ≤ iI ((256 : Nat) : Int) by decide) z⟩
    rw [a2 q hq, decide_eq_true hq, Bool.true_and]
/-- the towers as the class holds them, and what it keeps of what they see -/
def bse (m : am_M) (t : Nat) : Nat := (m.1 10 t).toInt.toNat
def abv (m : am_M) (t : Nat) : Int := (m.1 11 t).toInt
def tw_ok (m : am_M) (n : Nat) : Prop := n ≤ 8 ∧ m.1 9 9 = iI (n : Int) ∧ ∀ t, t < n → 0 ≤ (m.1 10 t).toInt ∧ (m.1 10 t).toInt < 256 ∧ 0 ≤ (m.1 11 t).toInt ∧ (m.1 11 t).toInt ≤ 100
theorem tw_b {m : am_M} {n t : Nat} (h : tw_ok m n) (ht : t < n) : m.1 10 t = iI (bse m t : Int) ∧ bse m t < 256 ∧ m.1 11 t = iI (abv m t) ∧ (abv m t).natAbs ≤ 100 := by
  have := h.2.2 t ht
  unfold bse abv
  refine ⟨?_, by omega, (iI_self _).symm, by omega⟩
  rw [Int.toNat_of_nonneg this.1, iI_self]
theorem tw_1 {m : am_M} {n t : Nat} (h : tw_ok m n) (ht : t < n) : cto m t = true := by
  have := h.1
  unfold cto
  rw [h.2.1, iI_to (by omega) (by omega)]
  exact decide_eq_true (by omega)
noncomputable def tsee (m : am_M) (t q : Nat) : Bool := csee m (bse m t) (abv m t) q
def tk_ok (m : am_M) (n : Nat) : Prop := ∀ t, t < n → m.1 12 t ≠ 0 → ∀ q, q < 256 → wb (m.2.1 (19 + 2 * t)) q = tsee m t q
theorem tsee_fr {m m1 : am_M} (h8 : m1.2.1 8 = m.2.1 8) (h5 : m1.1 5 = m.1 5) (h10 : m1.1 10 = m.1 10) (h11 : m1.1 11 = m.1 11) (t q : Nat) : tsee m1 t q = tsee m t q := by
  unfold tsee bse abv
  rw [csee_fr h8 h5, h10, h11]
theorem sq_t (m : am_M) : ∀ t, t < 8 → sw_sq m (18 + 2 * t) ∧ am_gR YL m 13 t = some (18 + 2 * t)
  | 0, _ => ⟨⟨rfl, rfl, rfl, rfl⟩, rfl⟩
  | 1, _ => ⟨⟨rfl, rfl, rfl, rfl⟩, rfl⟩
  | 2, _ => ⟨⟨rfl, rfl, rfl, rfl⟩, rfl⟩
  | 3, _ => ⟨⟨rfl, rfl, rfl, rfl⟩, rfl⟩
  | 4, _ => ⟨⟨rfl, rfl, rfl, rfl⟩, rfl⟩
  | 5, _ => ⟨⟨rfl, rfl, rfl, rfl⟩, rfl⟩
  | 6, _ => ⟨⟨rfl, rfl, rfl, rfl⟩, rfl⟩
  | 7, _ => ⟨⟨rfl, rfl, rfl, rfl⟩, rfl⟩
  | t + 8, h => absurd h (by omega)
/-- only what the towers keep has changed -/
def Ft (m m1 : am_M) : Prop := Ag [9, 12, 17, 19, 21, 23, 25, 27, 29, 31, 33] m m1 ∧ m1.1 9 9 = m.1 9 9
theorem Ft.rf (m : am_M) : Ft m m := ⟨Ag.rf _ m, rfl⟩
theorem Ft.tr {m m1 m2 : am_M} (h1 : Ft m m1) (h2 : Ft m1 m2) : Ft m m2 := ⟨h1.1.tr h2.1, h2.2.trans h1.2⟩
theorem Ft.ok {m m1 : am_M} {n : Nat} (h : Ft m m1) (t : tw_ok m n) : tw_ok m1 n := ⟨t.1, h.2.trans t.2.1, by rw [h.1.I (show 10 ∉ _ by decide), h.1.I (show 11 ∉ _ by decide)]; exact t.2.2⟩
theorem Ft.see {m m1 : am_M} (h : Ft m m1) (t q : Nat) : tsee m1 t q = tsee m t q := tsee_fr (h.1.J (by decide)) (h.1.I (by decide)) (h.1.I (by decide)) (h.1.I (by decide)) t q
theorem S_seenBy (m : am_M) (Q : Option Value → am_M → Prop) (n t : Nat) (ht : t < n) (hT : tw_ok m n) (hK : tk_ok m n) (hh : ∀ k, k < 256 → ((m.1 5 k).toInt).natAbs ≤ 3000)
    (h : ∀ m1, Ag [12, 19 + 2 * t] m m1 → tk_ok m1 n → (∀ q, q < 256 → wb (m1.2.1 (19 + 2 * t)) q = tsee m t q) → Q (some (.ref (18 + 2 * t))) m1) : am_WP YL 87 0 0 0 [some (.ref 9), some (.int (iI (t : Int)))] [] m Q := by
  have h8 := hT.1
  have hb := tw_b hT ht
  have hq := sq_t m t (by omega)
  have e : (iI (t : Int)).toNatClampNeg = t := by rw [iI_cl (by omega) (by omega), Int.toNat_natCast]
  have v : vp_in (iI (t : Int)) 8 := (iI_in (by omega) (by omega)).mpr (by omega)
  refine B_X7_seenBy_0 m Q _ (S_tIsOne m _ t (by omega) ?_)
  rw [tw_1 hT ht]
  refine B_X7_seenBy_5 m Q _ _ ⟨fun z => absurd z (by decide), fun _ => ⟨v, ?_⟩⟩
  rw [e, hq.2]
  refine B_X7_seenBy_14r m Q _ (18 + 2 * t) hq.1 ⟨v, ?_⟩
  rw [e]
  refine ⟨fun z => ⟨v, ?_⟩, fun z => ⟨v, ?_⟩⟩
  · rw [hq.2]
    exact B_X7_seenBy_66r m Q _ hq.1 (h m (Ag.rf _ m) hK (hK t ht z))
  · rw [hq.2]
    refine B_X7_seenBy_38r m Q _ (18 + 2 * t) hq.1 ⟨v, v, ?_⟩
    rw [e, hb.1, hb.2.2.1]
    refine S_tLook m _ (18 + 2 * t) hq.1 (by omega) (bse m t) hb.2.1 (abv m t) hb.2.2.2 hh (fun m1 f1 w1 => ?_)
    refine B_X7_seenBy_53 m1 Q _ ⟨v, v, ?_⟩
    have hq1 := sq_t (am_pI m1 12 t 1) t (by omega)
    rw [e, hq1.2]
    refine B_X7_seenBy_66r _ Q _ hq1.1 ?_
    have f2 : Ag [12, 19 + 2 * t] m (am_pI m1 12 t 1) := (f1.sub (B := [12, 19 + 2 * t]) (fun a ha => by rw [List.mem_singleton.mp ha, show 18 + 2 * t + 1 = 19 + 2 * t by omega]; exact List.mem_cons_of_mem _ (List.mem_singleton.mpr rfl))).pI (by exact List.mem_cons_self) _ _
    have nin : ∀ a, a ≠ 12 → a ≠ 19 + 2 * t → a ∉ [12, 19 + 2 * t] := by
      intro a h1 h2 h3
      rcases List.mem_cons.mp h3 with z | z
      · exact h1 z
      · exact h2 (List.mem_singleton.mp z)
    have w2 : ∀ q, q < 256 → wb ((am_pI m1 12 t 1).2.1 (19 + 2 * t)) q = tsee m t q := fun q hq => by
      have := w1 q hq
      rw [show 18 + 2 * t + 1 = 19 + 2 * t by omega] at this
      exact this
    have es : ∀ s q, tsee (am_pI m1 12 t 1) s q = tsee m s q := fun s q => tsee_fr (f2.J (nin 8 (by decide) (by omega))) (f2.I (nin 5 (by decide) (by omega))) (f2.I (nin 10 (by decide) (by omega))) (f2.I (nin 11 (by decide) (by omega))) s q
    refine h _ f2 ?_ w2
    intro s hs hz q hq
    rw [es]
    by_cases c : s = t
    · rw [c]
      exact w2 q hq
    · rw [am_pI_at, if_neg c] at hz
      rw [f2.J (nin (19 + 2 * s) (by omega) (by omega))]
      refine hK s hs ?_ q hq
      intro y
      apply hz
      rw [show m1.1 12 = m.1 12 from f1.I (by intro z; have := List.mem_singleton.mp z; omega)]
      exact y
noncomputable def cbl (m : am_M) : Nat → Nat → Bool
  | 0, q => wb (m.2.1 8) q
  | n + 1, q => cbl m n q && !tsee m n q
