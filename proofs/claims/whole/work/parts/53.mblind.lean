/-! ===== the reference: blinds, best ===== -/
def mbs (m : am_M) (t : Nat) : Nat := (m.1 113 t).toInt.toNat
def mab (m : am_M) (t : Nat) : Int := (m.1 114 t).toInt
def mtw (m : am_M) (n : Nat) : Prop := n ≤ 8 ∧ m.1 109 5 = iI (n : Int) ∧ ∀ t, t < n → 0 ≤ (m.1 113 t).toInt ∧ (m.1 113 t).toInt < 256 ∧ 0 ≤ (m.1 114 t).toInt ∧ (m.1 114 t).toInt ≤ 100
theorem mtw_b {m : am_M} {n t : Nat} (h : mtw m n) (ht : t < n) : m.1 113 t = iI (mbs m t : Int) ∧ mbs m t < 256 ∧ m.1 114 t = iI (mab m t) ∧ (mab m t).natAbs ≤ 100 := by
  have := h.2.2 t ht
  unfold mbs mab
  refine ⟨?_, by omega, (iI_self _).symm, by omega⟩
  rw [Int.toNat_of_nonneg this.1, iI_self]
def mt (m : am_M) (q : Nat) : Bool := mth m ((q / 16 : Nat) : Int) ((q % 16 : Nat) : Int)
noncomputable def mse (m : am_M) (t q : Nat) : Bool := decide (mf m (mbs m t) (mab m t) q = -1)
noncomputable def mbl (m : am_M) : Nat → Nat → Bool
  | 0, q => mt m q
  | n + 1, q => mbl m n q && !mse m n q
theorem mse_fr {A F : List Nat} {m m1 : am_M} (h : Fm A F m m1) (ha : 110 ∉ A) (hb : 111 ∉ A) (hc : 113 ∉ A) (hd : 114 ∉ A) (t q : Nat) : mse m1 t q = mse m t q := by
  unfold mse mbs mab
  rw [h.mf ha hb, h.1 113 hc (by decide), h.1 114 hd (by decide)]
theorem mbl_fr {A F : List Nat} {m m1 : am_M} (h : Fm A F m m1) (ha : 110 ∉ A) (hb : 111 ∉ A) (hc : 113 ∉ A) (hd : 114 ∉ A) (q : Nat) : ∀ n, mbl m1 n q = mbl m n q
  | 0 => h.th ha _ _
  | n + 1 => by
    show (mbl m1 n q && !mse m1 n q) = (mbl m n q && !mse m n q)
    rw [mbl_fr h ha hb hc hd q n, mse_fr h ha hb hc hd]
theorem mtw_fr {A F : List Nat} {m m1 : am_M} {n : Nat} (h : Fm A F m m1) (hc : 113 ∉ A) (hd : 114 ∉ A) (h5 : 5 ∉ F) (t : mtw m n) : mtw m1 n := ⟨t.1, (h.2.2.1 5 h5).trans t.2.1, by rw [h.1 113 hc (by decide), h.1 114 hd (by decide)]; exact t.2.2⟩
theorem mbl_no {m : am_M} {q : Nat} (h : mt m q = false) : ∀ n, mbl m n q = false
  | 0 => h
  | n + 1 => by
    show (mbl m n q && !mse m n q) = false
    rw [mbl_no h n, Bool.false_and]
theorem mbl_seen {m : am_M} {q t : Nat} (h : mse m t q = true) : ∀ n, t < n → mbl m n q = false
  | 0, z => absurd z (Nat.not_lt_zero t)
  | n + 1, z => by
    show (mbl m n q && !mse m n q) = false
    by_cases c : t = n
    · subst c
      rw [h]
      cases mbl m t q <;> rfl
    · rw [mbl_seen h n (by omega), Bool.false_and]
theorem S_findBlinds (m : am_M) (Q : Option Value → am_M → Prop) (n : Nat) (hT : mtw m n) (hh : ∀ k, k < 256 → ((m.1 111 k).toInt).natAbs ≤ 3000)
    (h : ∀ m1, Fm [131] [6, 7, 8] m m1 → (∀ q, q < 256 → wb (mv m1 131 0) q = mbl m n q) → Q none m1) : am_WP YL 220 0 0 0 [some (.ref 109), none, none, none] [] m Q := by
  have hn8 := hT.1
  refine B_X11_findBlinds_0 m Q ?_
  have main : ∀ m0, Fm [131] [6, 7, 8] m m0 → (∀ q, q < 256 → wb (mv m0 131 0) q = false) → am_WP YL 220 0 0 22 [some (.ref 109), some (.int (iI ((0 : Nat) : Int))), none, none] [] m0 Q := by
    intro m0 f0 w0
    have := lp (N := 256) (W := fun k m1 => am_WP YL 220 0 0 22 [some (.ref 109), some (.int (iI (k : Int))), none, none] [] m1 Q) (fun k m1 => Fm [131] [6, 7, 8] m m1 ∧ ∀ q, q < 256 → wb (mv m1 131 0) q = (decide (q < k) && mbl m n q)) (s := m0) ⟨f0, fun q hq => by rw [w0 q hq, decide_eq_false (Nat.not_lt_zero q), Bool.false_and]⟩ ?_ ?_
    · exact this
    · rintro k m1 hk ⟨f1, w1⟩ ih
      have skip : ∀ m2, FrL m1 m2 → mbl m n k = false → am_WP YL 220 0 0 22 [some (.ref 109), some (.int (iI ((k : Int) + 1))), none, none] [] m2 Q := by
        intro m2 f2 z
        refine ih m2 ⟨f1.tr (Fm.L f2 (by decide)), fun q hq => ?_⟩
        have e : mv m2 131 0 = mv m1 131 0 := by unfold mv; rw [f2.2.2]
        rw [e, w1 q hq]
        by_cases c : q = k
        · rw [c, z, Bool.and_false, Bool.and_false]
        · rw [show decide (q < k + 1) = decide (q < k) from decide_eq_decide.mpr (by omega)]
      have put : ∀ m2, FrL m1 m2 → mbl m n k = true → (vp_in (iI (k : Int) / (64 : Int32)) 4) ∧ ((vp_in (iI (k : Int) / (64 : Int32)) 4) ∧ (am_WP YL 220 0 0 22 [some (.ref 109), some (.int (iI ((k : Int) + 1))), none, none] [] (am_pJ m2 131 ((iI (k : Int) / (64 : Int32)).toNatClampNeg) ((m2.2.1 131 (iI (k : Int) / (64 : Int32)).toNatClampNeg) ||| ((1 : Int64) <<< ((iI (k : Int) - iI (k : Int) / (64 : Int32) * (64 : Int32)).toInt64 &&& 63)))) Q)) := by
        intro m2 f2 z
        simp (disch := omega) only [iI_lit, iI_mul, iI_div, iI_sub, iI_in, iI_cl]
        have e1 : ((k : Int) / 64).toNat = k / 64 := by omega
        rw [e1, show (k : Int) - (k : Int) / 64 * 64 = ((k % 64 : Nat) : Int) by omega, ← iI_nI (k % 64)]
        refine ⟨by omega, by omega, ih _ ⟨(f1.tr (Fm.L f2 (by decide))).pJ (by decide) _ _, fun q hq => ?_⟩⟩
        have e : ∀ j, m2.2.1 131 j = m1.2.1 131 j := fun j => by rw [f2.2.2]
        have w2 := w1 q hq
        unfold wb mv at w2 ⊢
        rw [am_pJ_at]
        by_cases cw : q / 64 = k / 64
        · rw [if_pos (by omega), zw_put (Nat.mod_lt _ (by decide)) (Nat.mod_lt _ (by decide)), e, ← cw, show q / 64 = 4 * 0 + q / 64 by omega, w2]
          by_cases c : q = k
          · rw [c, z, decide_eq_true rfl, decide_eq_true (Nat.lt_succ_self k), Bool.or_true]
            rfl
          · rw [decide_eq_false (show ¬ q % 64 = k % 64 by omega), Bool.or_false, show decide (q < k + 1) = decide (q < k) from decide_eq_decide.mpr (by omega)]
        · rw [if_neg (by omega), e, w2, show decide (q < k + 1) = decide (q < k) from decide_eq_decide.mpr (by omega)]
      refine B_X11_findBlinds_22 m1 Q _ ⟨fun z => absurd ((iI_le (a := 256) (by omega) (by omega) (by omega) (by omega)).mp z) (by omega), fun _ => ?_⟩
      refine S_isSquare m1 _ k hk ?_
      rw [f1.th (by decide)]
      refine B_X11_findBlinds_34 m1 Q _ _ (bz' (fun z => ?_) (fun z => ?_))
      · rw [iI_i1]
        exact skip m1 (FrL.rf m1) (mbl_no z n)
      · -- tower by tower
        have tow : ∀ (d t : Nat) (m2 : am_M), t + d = n → FrL m1 m2 → mbl m t k = true → am_WP YL 220 0 0 44 [some (.ref 109), some (.int (iI (k : Int))), some (.int 0), some (.int (iI (t : Int)))] [] m2 Q := by
          intro d
          induction d with
          | zero =>
            intro t m2 ht f2 hb
            have f12 : Fm [131] [6, 7, 8] m m2 := f1.tr (Fm.L f2 (by decide))
            obtain rfl : t = n := by omega
            refine B_X11_findBlinds_44 m2 Q _ _ _ ?_
            rw [f12.2.2.1 5 (by decide), hT.2.1, iI_le (by omega) (by omega) (by omega) (by omega), iI_i1]
            exact ⟨fun _ => ⟨fun y => absurd rfl y, fun _ => put m2 f2 hb⟩, fun y => by omega⟩
          | succ d ihd =>
            intro t m2 ht f2 hb
            have f12 : Fm [131] [6, 7, 8] m m2 := f1.tr (Fm.L f2 (by decide))
            have tb := mtw_b hT (show t < n by omega)
            have v : vp_in (iI (t : Int)) 8 := (iI_in (by omega) (by omega)).mpr (by omega)
            refine B_X11_findBlinds_44 m2 Q _ _ _ ?_
            rw [f12.2.2.1 5 (by decide), hT.2.1, iI_le (by omega) (by omega) (by omega) (by omega), iI_cl (by omega) (by omega), Int.toNat_natCast, f12.1 113 (by decide) (by decide), f12.1 114 (by decide) (by decide), tb.1, tb.2.2.1]
            refine ⟨fun y => by omega, fun _ => ⟨fun y => absurd rfl y, fun _ => ⟨v, v, ?_⟩⟩⟩
            refine S_barred m2 _ (mbs m t) k tb.2.1 hk (mab m t) tb.2.2.2 (by rw [f12.1 111 (by decide) (by decide)]; exact hh) (fun m3 f3 g1 g2 => ?_)
            rw [f12.mf (by decide) (by decide)] at g1 g2 ⊢
            refine B_X11_findBlinds_73 m3 Q _ _ _ ?_
            rw [show (-1 : Int32) = iI (-1) from rfl, iI_eq (by omega) (by omega) (by omega) (by omega), iI_i1]
            refine ⟨fun y => ?_, fun y => ?_⟩
            · have := ihd (t + 1) m3 (by omega) (f2.tr f3) (by
                show (mbl m t k && !mse m t k) = true
                unfold mse
                rw [hb, decide_eq_false y]
                rfl)
              exact this
            · have hs : mbl m n k = false := mbl_seen (t := t) (decide_eq_true y) n (by omega)
              have f13 : Fm [131] [6, 7, 8] m m3 := f12.tr (Fm.L f3 (by decide))
              refine B_X11_findBlinds_44 m3 Q _ _ _ ?_
              rw [f13.2.2.1 5 (by decide), hT.2.1, iI_i1]
              exact ⟨fun _ => ⟨fun _ => skip m3 (f2.tr f3) hs, fun w => absurd w (by decide)⟩, fun _ => ⟨fun _ => ⟨fun _ => skip m3 (f2.tr f3) hs, fun w => absurd w (by decide)⟩, fun w => absurd w (by decide)⟩⟩
        have := tow n 0 m1 (by omega) (FrL.rf m1) z
        exact this
    · rintro m1 ⟨f1, w1⟩
      refine B_X11_findBlinds_22 m1 Q _ ⟨fun _ => h m1 f1 (fun q hq => ?_), fun z => absurd (show (256 : Int32) ≤ iI ((256 : Nat) : Int) by decide) z⟩
      rw [w1 q hq, decide_eq_true hq, Bool.true_and]
  have := lp (N := 4) (W := fun k m1 => am_WP YL 220 0 0 2 [some (.ref 109), some (.int (iI (k : Int))), none, none] [] m1 Q) (fun k m1 => Fm [131] [6, 7, 8] m m1 ∧ ∀ w, w < k → m1.2.1 131 w = 0) (s := m) ⟨Fm.rf _ _ m, fun w hw => absurd hw (Nat.not_lt_zero w)⟩ ?_ ?_
  · exact this
  · rintro k m1 hk4 ⟨fr, w1⟩ ih
    refine B_X11_findBlinds_2 m1 Q _ ?_
    simp (disch := omega) only [iI_lit, iI_ofNat, iI_neg, iI_add, iI_sub, iI_mul, iI_lt, iI_le, iI_eq, iI_in, iI_cl, Int.toNat_natCast]
    refine ⟨fun z => by omega, fun _ => ⟨by omega, ih _ ⟨fr.pJ (by decide) _ _, ?_⟩⟩⟩
    intro w hw
    rw [am_pJ_at]
    by_cases c : w = k
    · rw [if_pos (by omega)]
    · rw [if_neg (by omega)]
      exact w1 w (by omega)
  · rintro m1 ⟨fr, w1⟩
    refine B_X11_findBlinds_2 m1 Q _ ⟨fun _ => main m1 fr (fun q hq => ?_), fun z => absurd (show (4 : Int32) ≤ iI ((4 : Nat) : Int) by decide) z⟩
    unfold wb mv
    rw [w1 _ (by omega), zw_0]
theorem S_mblinds (m : am_M) (Q : Option Value → am_M → Prop) (n : Nat) (hT : mtw m n) (hh : ∀ k, k < 256 → ((m.1 111 k).toInt).natAbs ≤ 3000)
    (h : ∀ m1, Fm [131] [6, 7, 8] m m1 → (∀ q, q < 256 → wb (mv m1 131 0) q = mbl m n q) → Q (some (.int (iI (fb_ct (mbl m n) 256 : Int)))) m1) : am_WP YL 221 0 0 0 [some (.ref 109)] [] m Q := by
  refine B_X11_blinds_0 m Q (S_findBlinds m _ n hT hh (fun m1 f1 w1 => B_X11_blinds_4 m1 Q ?_))
  refine S_msize m1 _ 131 4 0 rfl rfl (by decide) (by decide) (B_X11_blinds_12 m1 Q _ ?_)
  rw [fb_ct_cong w1]
  exact h m1 f1 w1
theorem S_mblind (m : am_M) (Q : Option Value → am_M → Prop) (n : Nat) (hT : mtw m n) (hh : ∀ k, k < 256 → ((m.1 111 k).toInt).natAbs ≤ 3000) (k : Int) (hbk : -2147483648 ≤ k ∧ k ≤ 2147483647)
    (h : ∀ m1, Fm [131] [6, 7, 8] m m1 → Q (some (.int (iI (kth (mbl m n) k 256)))) m1) : am_WP YL 222 0 0 0 [some (.ref 109), some (.int (iI k))] [] m Q := by
  refine B_X11_blind_0 m Q _ (S_findBlinds m _ n hT hh (fun m1 f1 w1 => B_X11_blind_4 m1 Q _ ?_))
  refine S_mkth m1 _ 131 4 0 rfl rfl (by decide) (by decide) k (by omega) (by omega) (B_X11_blind_13 m1 Q _ ?_)
  rw [kth_cong w1]
  exact h m1 f1
noncomputable def mnew (m : am_M) (n q : Nat) : Nat := fb_ct (fun k => mbl m n k && decide (mf m q 10 k = -1)) 256
noncomputable def mbest (m : am_M) (n : Nat) : Int := if fb_ct (mbl m n) 256 = 0 then -1 else (bsm (mnew m n) (mt m) 256).2
theorem S_mbest (m : am_M) (Q : Option Value → am_M → Prop) (n : Nat) (hT : mtw m n) (hh : ∀ k, k < 256 → ((m.1 111 k).toInt).natAbs ≤ 3000)
    (h : ∀ m1, Fm [131] [6, 7, 8] m m1 → Q (some (.int (iI (mbest m n)))) m1) : am_WP YL 223 0 0 0 [some (.ref 109), none, none, none, none, none] [] m Q := by
  refine B_X11_best_0 m Q (S_mblinds m _ n hT hh (fun m1 f1 w1 => B_X11_best_4 m1 Q _ ?_))
  have lb := fb_ct_le (mbl m n) 256
  rw [show (0 : Int32) = iI 0 from rfl, iI_eq (by omega) (by omega) (by omega) (by omega)]
  unfold mbest at h
  refine ⟨fun z => ?_, fun z => by rw [if_pos (by omega)] at h; exact h m1 f1⟩
  rw [if_neg (by omega)] at h
  have nn : ∀ k, mnew m n k ≤ 256 := fun k => fb_ct_le _ 256
  have bb := bm_b (mnew m n) (mt m) nn
  have := lp (N := 256) (W := fun k m2 => am_WP YL 223 0 0 15 [some (.ref 109), some (.int (iI (bsm (mnew m n) (mt m) k).2)), some (.int (iI (bsm (mnew m n) (mt m) k).1)), some (.int (iI (k : Int))), none, none] [] m2 Q) (fun k m2 => FrL m1 m2) (s := m1) (FrL.rf m1) ?_ ?_
  · exact this
  · intro k m2 hk f2 ih
    have b := bb k
    have f12 : Fm [131] [6, 7, 8] m m2 := f1.tr (Fm.L f2 (by decide))
    refine B_X11_best_15 m2 Q _ _ _ ⟨fun z => absurd ((iI_le (a := 256) (by omega) (by omega) (by omega) (by omega)).mp z) (by omega), fun _ => ?_⟩
    refine S_isSquare m2 _ k hk ?_
    rw [f12.th (by decide)]
    refine B_X11_best_27 m2 Q _ _ _ _ (bz' (fun z => ?_) (fun z => ?_))
    · have e : bsm (mnew m n) (mt m) (k + 1) = bsm (mnew m n) (mt m) k := if_neg (fun y => by have := y.1; unfold mt at this; rw [z] at this; cases this)
      have := ih m2 f2
      rw [e] at this
      rw [iI_i1]
      exact this
    · have pp := fb_ct_le (fun k' => mbl m n k' && decide (mf m k 10 k' = -1))
      have := lp (N := 256) (W := fun o m3 => am_WP YL 223 0 0 39 [some (.ref 109), some (.int (iI (bsm (mnew m n) (mt m) k).2)), some (.int (iI (bsm (mnew m n) (mt m) k).1)), some (.int (iI (k : Int))), some (.int (iI (fb_ct (fun k' => mbl m n k' && decide (mf m k 10 k' = -1)) o : Int))), some (.int (iI (o : Int)))] [] m3 Q) (fun o m3 => FrL m1 m3) (s := m2) f2 ?_ ?_
      · exact this
      · intro o m3 ho f3 iho
        have f13 : Fm [131] [6, 7, 8] m m3 := f1.tr (Fm.L f3 (by decide))
        have e131 : mv m3 131 0 = mv m1 131 0 := by unfold mv; rw [f3.2.2]
        refine B_X11_best_39 m3 Q _ _ _ _ _ ⟨fun z => absurd ((iI_le (a := 256) (by omega) (by omega) (by omega) (by omega)).mp z) (by omega), fun _ => ?_⟩
        refine S_mhas m3 _ 131 4 0 o rfl rfl (by decide) (by decide) ho ?_
        rw [e131, w1 o ho]
        refine B_X11_best_57 m3 Q _ _ _ _ _ _ (bz (fun y => ?_) (fun y => ?_))
        · have := iho m3 f3
          rw [fb_ct_succ, y, Bool.false_and] at this
          rw [iI_i1]
          exact this
        · refine S_barred m3 _ k o hk ho 10 (by decide) (by rw [f13.1 111 (by decide) (by decide)]; exact hh) (fun m4 f4 g1 g2 => ?_)
          rw [f13.mf (by decide) (by decide)] at g1 g2 ⊢
          refine B_X11_best_69 m4 Q _ _ _ _ _ _ ?_
          rw [show (-1 : Int32) = iI (-1) from rfl, iI_eq (by omega) (by omega) (by omega) (by omega), iI_i1, iI_i1]
          have := iho m4 (f3.tr f4)
          rw [fb_ct_succ, y, Bool.true_and] at this
          refine ⟨fun x => ?_, fun x => ?_⟩
          · rw [decide_eq_false x] at this
            exact this
          · rw [decide_eq_true x] at this
            exact this
      · intro m3 f3
        have hnk := nn k
        have e9 : fb_ct (fun k' => mbl m n k' && decide (mf m k 10 k' = -1)) 256 = mnew m n k := rfl
        refine B_X11_best_39 m3 Q _ _ _ _ _ ?_
        rw [e9, iI_lt (by omega) (by omega) (by omega) (by omega), iI_i1]
        refine ⟨fun _ => ⟨fun y => ?_, fun y => ?_⟩, fun y => absurd (show (256 : Int32) ≤ iI ((256 : Nat) : Int) by decide) y⟩
        · have e : bsm (mnew m n) (mt m) (k + 1) = ((mnew m n k : Int), (k : Int)) := if_pos ⟨z, y⟩
          have := ih m3 f3
          rw [e] at this
          exact this
        · have e : bsm (mnew m n) (mt m) (k + 1) = bsm (mnew m n) (mt m) k := if_neg (fun w => y w.2)
          have := ih m3 f3
          rw [e] at this
          exact this
  · intro m2 f2
    refine B_X11_best_15 m2 Q _ _ _ ⟨fun _ => h m2 (f1.tr (Fm.L f2 (by decide))), fun z => absurd (show (256 : Int32) ≤ iI ((256 : Nat) : Int) by decide) z⟩
