/-! ===== the reference's look ===== -/
theorem iI_i1 (z : Int) : iI z + 1 = iI (z + 1) := iI_add z 1
/-- besides the words of a line only longs lo .. of the array a have changed -/
def FrS (a lo hi : Nat) (m m1 : am_M) : Prop := (∀ x, x ≠ 109 → m1.1 x = m.1 x) ∧ (∀ j, j ≠ 6 → j ≠ 7 → j ≠ 8 → m1.1 109 j = m.1 109 j) ∧ (∀ x, x ≠ a → m1.2.1 x = m.2.1 x) ∧ (∀ j, ¬ (lo ≤ j ∧ j < hi) → m1.2.1 a j = m.2.1 a j) ∧ m1.2.2 = m.2.2
theorem FrS.rf (a lo hi : Nat) (m : am_M) : FrS a lo hi m m := ⟨fun _ _ => rfl, fun _ _ _ _ => rfl, fun _ _ => rfl, fun _ _ => rfl, rfl⟩
theorem FrS.tr {a lo hi : Nat} {m m1 m2 : am_M} (h1 : FrS a lo hi m m1) (h2 : FrS a lo hi m1 m2) : FrS a lo hi m m2 := ⟨fun x h => (h2.1 x h).trans (h1.1 x h), fun j a b c => (h2.2.1 j a b c).trans (h1.2.1 j a b c), fun x h => (h2.2.2.1 x h).trans (h1.2.2.1 x h), fun j h => (h2.2.2.2.1 j h).trans (h1.2.2.2.1 j h), h2.2.2.2.2.trans h1.2.2.2.2⟩
theorem FrS.L {a lo hi : Nat} {m m1 : am_M} (h : FrL m m1) : FrS a lo hi m m1 := by
  refine ⟨h.1, h.2.1, fun x _ => ?_, fun j _ => ?_, ?_⟩ <;> rw [h.2.2]
theorem FrS.pJ {a lo hi j : Nat} (m : am_M) (h1 : lo ≤ j) (h2 : j < hi) (v : Int64) : FrS a lo hi m (am_pJ m a j v) := by
  refine ⟨fun _ _ => rfl, fun _ _ _ _ => rfl, fun x hx => am_pJ_ne hx, fun i hi => ?_, rfl⟩
  rw [am_pJ_at, if_neg (fun e => hi (by rw [e]; exact ⟨h1, h2⟩))]
theorem FrS.k {a lo hi : Nat} {m m1 : am_M} (h : FrS a lo hi m m1) (x : Nat) : am_k YL m1 x = am_k YL m x := by
  unfold am_k
  rw [h.2.2.2.2]
theorem FrS.th {a lo hi : Nat} {m m1 : am_M} (h : FrS a lo hi m m1) (r c : Int) : mth m1 r c = mth m r c := by
  unfold mth
  rw [h.1 110 (by decide)]
theorem FrS.mf {a lo hi : Nat} {m m1 : am_M} (h : FrS a lo hi m m1) (f : Nat) (up : Int) (t : Nat) : mf m1 f up t = mf m f up t := by
  show fh (fun k => mth m1 _ _) (fun k => (m1.1 111 k).toInt) f up t = fh (fun k => mth m _ _) (fun k => (m.1 111 k).toInt) f up t
  rw [h.1 111 (by decide)]
  congr 1
  funext k
  exact h.th _ _
def near (f q : Nat) (rc : Int) : Bool := decide (rc < 0) || decide (((q : Int) / 16 - (f : Int) / 16) * ((q : Int) / 16 - (f : Int) / 16) + ((q : Int) % 16 - (f : Int) % 16) * ((q : Int) % 16 - (f : Int) % 16) ≤ rc * rc)
theorem icone_self (f : Nat) (dn rt sd : Int) : icone f f dn rt sd = false := by
  unfold icone
  rw [Int.sub_self, Int.sub_self, Int.zero_mul, Int.zero_mul]
  exact decide_eq_false (fun z => by omega)
noncomputable def mlk (m : am_M) (f : Nat) (up dn rt sd rc : Int) (asks : Bool) (q : Nat) : Bool := mth m ((q / 16 : Nat) : Int) ((q % 16 : Nat) : Int) && (icone f q dn rt sd && (near f q rc && (!asks || decide (mf m f up q = -1))))
theorem S_look (m : am_M) (Q : Option Value → am_M → Prop) (a nl t : Nat) (hk : am_k YL m a = (21, nl)) (hb : Nat.ble 3 a = true) (ht : 4 * t + 4 ≤ nl) (hn : nl < 100000) (f : Nat) (hf : f < 256) (up dn rt sd rc : Int) (asks : Bool) (hu : up.natAbs ≤ 100) (h1 : dn.natAbs ≤ 50) (h2 : rt.natAbs ≤ 50) (h3 : sd.natAbs ≤ 400) (h4 : rc.natAbs ≤ 40) (hh : ∀ k, k < 256 → ((m.1 111 k).toInt).natAbs ≤ 3000)
    (h : ∀ m1, FrS a (4 * t) (4 * t + 4) m m1 → (∀ q, q < 256 → wb (mv m1 a t) q = mlk m f up dn rt sd rc asks q) → Q none m1) :
    am_WP YL 181 0 0 0 [some (.ref 109), some (.ref a), some (.int (iI (t : Int))), some (.int (iI (f : Int))), some (.int (iI up)), some (.int (iI dn)), some (.int (iI rt)), some (.int (iI sd)), some (.int (iI rc)), some (.int (bI asks)), none, none, none, none, none] [] m Q := by
  refine B_X11_look_0 m Q a nl hk hb _ _ _ _ _ _ _ _ ?_
  -- the loop over the squares
  have main : ∀ m1, FrS a (4 * t) (4 * t + 4) m m1 → (∀ q, q < 256 → wb (mv m1 a t) q = false) → am_WP YL 181 0 0 27 [some (.ref 109), some (.ref a), some (.int (iI (t : Int))), some (.int (iI (f : Int))), some (.int (iI up)), some (.int (iI dn)), some (.int (iI rt)), some (.int (iI sd)), some (.int (iI rc)), some (.int (bI asks)), some (.int (iI ((0 : Nat) : Int))), none, none, none, none] [] m1 Q := by
    intro m0 fr0 w0
    have := lp (N := 256) (W := fun k m1 => am_WP YL 181 0 0 27 [some (.ref 109), some (.ref a), some (.int (iI (t : Int))), some (.int (iI (f : Int))), some (.int (iI up)), some (.int (iI dn)), some (.int (iI rt)), some (.int (iI sd)), some (.int (iI rc)), some (.int (bI asks)), some (.int (iI (k : Int))), none, none, none, none] [] m1 Q)
      (fun k m1 => FrS a (4 * t) (4 * t + 4) m m1 ∧ ∀ q, q < 256 → wb (mv m1 a t) q = (decide (q < k) && mlk m f up dn rt sd rc asks q)) (s := m0) ⟨fr0, fun q hq => by rw [w0 q hq, decide_eq_false (Nat.not_lt_zero q), Bool.false_and]⟩ ?_ ?_
    · exact this
    · rintro k m1 hk256 ⟨fr, w1⟩ ih
      have hk1 : am_k YL m1 a = (21, nl) := by rw [fr.k]; exact hk
      have skip : ∀ m2, FrL m1 m2 → mlk m f up dn rt sd rc asks k = false → am_WP YL 181 0 0 27 [some (.ref 109), some (.ref a), some (.int (iI (t : Int))), some (.int (iI (f : Int))), some (.int (iI up)), some (.int (iI dn)), some (.int (iI rt)), some (.int (iI sd)), some (.int (iI rc)), some (.int (bI asks)), some (.int (iI ((k : Int) + 1))), none, none, none, none] [] m2 Q := by
        intro m2 f2 z
        refine ih m2 ⟨fr.tr (FrS.L f2), fun q hq => ?_⟩
        have e : mv m2 a t = mv m1 a t := by unfold mv; rw [f2.2.2]
        rw [e, w1 q hq]
        by_cases c : q = k
        · rw [c, z, Bool.and_false, Bool.and_false]
        · rw [show decide (q < k + 1) = decide (q < k) from decide_eq_decide.mpr (by omega)]
      have put : ∀ m2, FrL m1 m2 → mlk m f up dn rt sd rc asks k = true → am_WP YL 181 0 0 172 [some (.ref 109), some (.ref a), some (.int (iI (t : Int))), some (.int (iI (f : Int))), some (.int (iI up)), some (.int (iI dn)), some (.int (iI rt)), some (.int (iI sd)), some (.int (iI rc)), some (.int (bI asks)), some (.int (iI (k : Int))), none, none, none, none] [] m2 Q := by
        intro m2 f2 z
        have hk2 : am_k YL m2 a = (21, nl) := by rw [(FrS.L (a := a) (lo := 0) (hi := 0) f2).k]; exact hk1
        refine B_X11_look_172 m2 Q a nl hk2 hb _ _ _ _ _ _ _ _ _ ?_
        simp (disch := omega) only [iI_lit, iI_mul, iI_div, iI_add, iI_sub, iI_in, iI_cl]
        have e1 : (4 * (t : Int) + (k : Int) / 64).toNat = 4 * t + k / 64 := by omega
        rw [e1, show (k : Int) - (k : Int) / 64 * 64 = ((k % 64 : Nat) : Int) by omega, ← iI_nI (k % 64)]
        refine ⟨by omega, by omega, ih _ ⟨(fr.tr (FrS.L f2)).tr (FrS.pJ m2 (by omega) (by omega) _), fun q hq => ?_⟩⟩
        have e : ∀ j, m2.2.1 a j = m1.2.1 a j := fun j => by rw [f2.2.2]
        have w2 := w1 q hq
        unfold wb mv at w2 ⊢
        rw [am_pJ_at]
        by_cases cw : q / 64 = k / 64
        · rw [if_pos (by omega), zw_put (Nat.mod_lt _ (by decide)) (Nat.mod_lt _ (by decide)), e, ← cw, w2]
          by_cases c : q = k
          · rw [c, z, decide_eq_true rfl, decide_eq_true (Nat.lt_succ_self k), Bool.or_true]
            rfl
          · rw [decide_eq_false (show ¬ q % 64 = k % 64 by omega), Bool.or_false, show decide (q < k + 1) = decide (q < k) from decide_eq_decide.mpr (by omega)]
        · rw [if_neg (by omega), e, w2, show decide (q < k + 1) = decide (q < k) from decide_eq_decide.mpr (by omega)]
      have v1 : ((k : Int) / 16 - (f : Int) / 16).natAbs ≤ 15 := by omega
      have u1 : ((k : Int) % 16 - (f : Int) % 16).natAbs ≤ 15 := by omega
      refine B_X11_look_27 m1 Q a nl hk1 hb _ _ _ _ _ _ _ _ _ ?_
      rw [show (256 : Int32) = iI 256 from rfl, iI_le (by omega) (by omega) (by omega) (by omega), iI_eq (by omega) (by omega) (by omega) (by omega), iI_i1]
      refine ⟨fun z => by omega, fun _ => ⟨fun z => skip m1 (FrL.rf m1) ?_, fun z => ?_⟩⟩
      · obtain rfl : k = f := by omega
        unfold mlk
        rw [icone_self, Bool.false_and, Bool.and_false]
      refine S_isSquare m1 _ k hk256 ?_
      rw [fr.th]
      have e1p := iI_i1 (k : Int)
      refine B_X11_look_47 m1 Q a nl hk1 hb _ _ _ _ _ _ _ _ _ _ (bz' (fun y => by rw [e1p]; exact skip m1 (FrL.rf m1) (by unfold mlk; rw [y, Bool.false_and])) (fun y => ?_))
      have em : mlk m f up dn rt sd rc asks k = (icone f k dn rt sd && (near f k rc && (!asks || decide (mf m f up k = -1)))) := by
        unfold mlk
        rw [y, Bool.true_and]
      have go : near f k rc = true → icone f k dn rt sd = true → am_WP YL 181 0 0 151 [some (.ref 109), some (.ref a), some (.int (iI (t : Int))), some (.int (iI (f : Int))), some (.int (iI up)), some (.int (iI dn)), some (.int (iI rt)), some (.int (iI sd)), some (.int (iI rc)), some (.int (bI asks)), some (.int (iI (k : Int))), none, none, none, none] [] m1 Q := by
        intro hn1 hi1
        rw [hn1, hi1, Bool.true_and, Bool.true_and] at em
        refine B_X11_look_151 m1 Q a nl hk1 hb _ _ _ _ _ _ _ _ _ (bz (fun x => put m1 (FrL.rf m1) ?_) (fun x => ?_))
        · rw [em, x]
          rfl
        · refine S_barred m1 _ f k hf hk256 up hu (by rw [fr.1 111 (by decide)]; exact hh) (fun m2 f2 g1 g2 => ?_)
          have hk2 : am_k YL m2 a = (21, nl) := by rw [(FrS.L (a := a) (lo := 0) (hi := 0) f2).k]; exact hk1
          refine B_X11_look_165 m2 Q a nl hk2 hb _ _ _ _ _ _ _ _ _ _ ?_
          rw [fr.mf] at g1 g2 ⊢
          rw [show (-1 : Int32) = iI (-1) from rfl, iI_eq (by omega) (by omega) (by omega) (by omega), iI_i1]
          refine ⟨fun y => put m2 f2 ?_, fun y => skip m2 f2 ?_⟩
          · rw [em, x, decide_eq_true y]
            rfl
          · rw [em, x, decide_eq_false y]
            rfl
      refine B_X11_look_53 m1 Q a nl hk1 hb _ _ _ _ _ _ _ _ _ ?_
      simp (disch := omega) only [iI_lit, iI_mul, iI_div, iI_sub]
      rw [show (k : Int) - (k : Int) / 16 * 16 = (k : Int) % 16 by omega, show (f : Int) - (f : Int) / 16 * 16 = (f : Int) % 16 by omega]
      refine B_X11_look_77 m1 Q a nl hk1 hb _ _ _ _ _ _ _ _ _ _ _ ?_
      have b1 := pbd v1 h1
      have b2 := pbd u1 h2
      have b3 := pbd v1 h2
      have b4 := pbd u1 h1
      have b5 : (sd * (((k : Int) / 16 - (f : Int) / 16) * dn + ((k : Int) % 16 - (f : Int) % 16) * rt)).natAbs ≤ 400 * 1500 := pbd h3 (by omega)
      simp (disch := omega) only [iI_lit, iI_mul, iI_sub, iI_add, iI_le, iI_ite]
      refine B_X11_look_106 m1 Q a nl hk1 hb _ _ _ _ _ _ _ _ _ _ _ _ _ ?_
      have b6 : (if 0 ≤ ((k : Int) / 16 - (f : Int) / 16) * rt - ((k : Int) % 16 - (f : Int) % 16) * dn then ((k : Int) / 16 - (f : Int) / 16) * rt - ((k : Int) % 16 - (f : Int) % 16) * dn else 0 - (((k : Int) / 16 - (f : Int) / 16) * rt - ((k : Int) % 16 - (f : Int) % 16) * dn)).natAbs ≤ 1500 := by
        split <;> omega
      have ei : icone f k dn rt sd = decide (0 < ((k : Int) / 16 - (f : Int) / 16) * dn + ((k : Int) % 16 - (f : Int) % 16) * rt ∧ 100 * (if 0 ≤ ((k : Int) / 16 - (f : Int) / 16) * rt - ((k : Int) % 16 - (f : Int) % 16) * dn then ((k : Int) / 16 - (f : Int) / 16) * rt - ((k : Int) % 16 - (f : Int) % 16) * dn else 0 - (((k : Int) / 16 - (f : Int) / 16) * rt - ((k : Int) % 16 - (f : Int) % 16) * dn)) ≤ sd * (((k : Int) / 16 - (f : Int) / 16) * dn + ((k : Int) % 16 - (f : Int) % 16) * rt)) := rfl
      have b7 : (((k : Int) / 16 - (f : Int) / 16) * dn + ((k : Int) % 16 - (f : Int) % 16) * rt).natAbs ≤ 1500 := by omega
      generalize ((k : Int) / 16 - (f : Int) / 16) * dn + ((k : Int) % 16 - (f : Int) % 16) * rt = al at ei b5 b7 ⊢
      generalize (if 0 ≤ ((k : Int) / 16 - (f : Int) / 16) * rt - ((k : Int) % 16 - (f : Int) % 16) * dn then ((k : Int) / 16 - (f : Int) / 16) * rt - ((k : Int) % 16 - (f : Int) % 16) * dn else 0 - (((k : Int) / 16 - (f : Int) / 16) * rt - ((k : Int) % 16 - (f : Int) % 16) * dn)) = ac at ei b6 ⊢
      simp (disch := omega) only [iI_lit, iI_mul, iI_le, iI_lt, iI_add]
      refine ⟨fun ca => skip m1 (FrL.rf m1) ?_, fun ca => ⟨fun cb => skip m1 (FrL.rf m1) ?_, fun cb => ?_⟩⟩
      · rw [em, ei, decide_eq_false (fun z => by omega), Bool.false_and]
      · rw [em, ei, decide_eq_false (fun z => by omega), Bool.false_and]
      have hi1 : icone f k dn rt sd = true := by rw [ei]; exact decide_eq_true ⟨by omega, by omega⟩
      have b8 := pbd v1 v1
      have b9 := pbd u1 u1
      have b10 := pbd h4 h4
      refine B_X11_look_124 m1 Q a nl hk1 hb _ _ _ _ _ _ _ _ _ _ _ ?_
      rw [iI_i1]
      simp (disch := omega) only [iI_lit, iI_mul]
      simp (disch := omega) only [iI_add, iI_le, iI_lt]
      refine ⟨fun x => go ?_ hi1, fun x => ⟨fun x2 => go ?_ hi1, fun x2 => skip m1 (FrL.rf m1) ?_⟩⟩
      · unfold near
        rw [decide_eq_true x, Bool.true_or]
      · unfold near
        rw [decide_eq_true x2, Bool.or_true]
      · have : near f k rc = false := by
          unfold near
          rw [decide_eq_false x, decide_eq_false x2]
          rfl
        rw [em, this, Bool.false_and, Bool.and_false]
    · rintro m1 ⟨fr, w1⟩
      have hk1 : am_k YL m1 a = (21, nl) := by rw [fr.k]; exact hk
      refine B_X11_look_27 m1 Q a nl hk1 hb _ _ _ _ _ _ _ _ _ ?_
      refine ⟨fun _ => h m1 fr (fun q hq => ?_), fun z => absurd (show (256 : Int32) ≤ iI ((256 : Nat) : Int) by decide) z⟩
      rw [w1 q hq, decide_eq_true hq, Bool.true_and]
  have := lp (N := 4) (W := fun k m1 => am_WP YL 181 0 0 3 [some (.ref 109), some (.ref a), some (.int (iI (t : Int))), some (.int (iI (f : Int))), some (.int (iI up)), some (.int (iI dn)), some (.int (iI rt)), some (.int (iI sd)), some (.int (iI rc)), some (.int (bI asks)), some (.int (iI (k : Int))), none, none, none, none] [] m1 Q)
    (fun k m1 => FrS a (4 * t) (4 * t + 4) m m1 ∧ ∀ w, w < k → mv m1 a t w = 0) (s := m) ⟨FrS.rf _ _ _ m, fun w hw => absurd hw (Nat.not_lt_zero w)⟩ ?_ ?_
  · exact this
  · rintro k m1 hk4 ⟨fr, w1⟩ ih
    have hk1 : am_k YL m1 a = (21, nl) := by rw [fr.k]; exact hk
    refine B_X11_look_3 m1 Q a nl hk1 hb _ _ _ _ _ _ _ _ _ ?_
    simp (disch := omega) only [iI_lit, iI_mul, iI_add, iI_in, iI_cl, iI_le]
    refine ⟨fun z => by omega, fun _ => ⟨by omega, ih _ ⟨?_, ?_⟩⟩⟩
    · exact fr.tr (FrS.pJ m1 (by omega) (by omega) _)
    · intro w hw
      unfold mv
      rw [am_pJ_at]
      by_cases c : w = k
      · rw [if_pos (by omega)]
      · rw [if_neg (by omega)]
        exact w1 w (by omega)
  · rintro m1 ⟨fr, w1⟩
    have hk1 : am_k YL m1 a = (21, nl) := by rw [fr.k]; exact hk
    refine B_X11_look_3 m1 Q a nl hk1 hb _ _ _ _ _ _ _ _ _ ?_
    refine ⟨fun _ => main m1 fr (fun q hq => ?_), fun z => absurd (show (4 : Int32) ≤ iI ((4 : Nat) : Int) by decide) z⟩
    unfold wb
    rw [w1 _ (by omega), zw_0]
