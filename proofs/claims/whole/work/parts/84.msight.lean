/-! ===== the reference's sight ===== -/
def mrc (kd rc b : Int) : Int := if kd = 1 then rc else if kd = 2 then rc - rc * (hzv b).toInt / 100 else -1
def msok (m : am_M) (kd tw mi dn rt sd rc b : Int) : Bool := inR kd 0 3 && (inR tw 0 ((m.1 109 5).toInt - 1) && (lok mi dn rt sd && ((!(decide (kd = 1) || decide (kd = 2)) || inR rc 1 40) && (!decide (kd = 2) || hzk b))))
theorem mrc_b {kd rc b : Int} (h : (!(decide (kd = 1) || decide (kd = 2)) || inR rc 1 40) = true) (h2 : (!decide (kd = 2) || hzk b) = true) : -1 ≤ mrc kd rc b ∧ mrc kd rc b ≤ 40 := by
  unfold mrc
  by_cases c1 : kd = 1
  · rw [if_pos c1]
    rw [decide_eq_true c1] at h
    have := of_decide_eq_true h
    omega
  · rw [if_neg c1]
    by_cases c2 : kd = 2
    · rw [if_pos c2]
      rw [decide_eq_true c2] at h h2
      rw [Bool.or_true] at h
      have h := of_decide_eq_true h
      have z := hzv_b (b := b) h2
      have e : 0 ≤ rc * (hzv b).toInt ∧ rc * (hzv b).toInt ≤ 40 * 100 := ⟨Int.mul_nonneg (by omega) z.1, Int.mul_le_mul h.2 z.2 z.1 (by decide)⟩
      have e2 : rc * (hzv b).toInt ≤ rc * 100 := Int.mul_le_mul_of_nonneg_left z.2 (by omega)
      generalize rc * (hzv b).toInt = x at e e2
      omega
    · rw [if_neg c2]
      omega
theorem hz_cut {rc h : Int} (h1 : 1 ≤ rc) (h2 : rc ≤ 40) (h3 : 0 ≤ h) (h4 : h ≤ 100) : iI rc - (iI rc * iI h) / (100 : Int32) = iI (rc - rc * h / 100) := by
  have e : 0 ≤ rc * h ∧ rc * h ≤ 40 * 100 := ⟨Int.mul_nonneg (by omega) h3, Int.mul_le_mul h2 h4 h3 (by decide)⟩
  rw [show (100 : Int32) = iI 100 from rfl, iI_mul, iI_div e.1 (by omega) (by decide) (by decide), iI_sub]
theorem S_msight (m : am_M) (Q : Option Value → am_M → Prop) (hW : MW m) (n : Nat) (hT : mtw m n) (lt kp : Nat) (hl : lt < 50) (hk : kp ≤ 50) (h14 : m.1 109 14 = iI (lt : Int)) (h13 : m.1 109 13 = iI (kp : Int)) (kd tw mi dn rt sd rc b : Int) (hbkd : -2147483648 ≤ kd ∧ kd ≤ 2147483647) (hbtw : -2147483648 ≤ tw ∧ tw ≤ 2147483647) (hbmi : -2147483648 ≤ mi ∧ mi ≤ 2147483647) (hbdn : -2147483648 ≤ dn ∧ dn ≤ 2147483647) (hbrt : -2147483648 ≤ rt ∧ rt ≤ 2147483647) (hbsd : -2147483648 ≤ sd ∧ sd ≤ 2147483647) (hbrc : -2147483648 ≤ rc ∧ rc ≤ 2147483647) (hbb : -2147483648 ≤ b ∧ b ≤ 2147483647)
    (h0 : msok m kd tw mi dn rt sd rc b = false ∨ mfr m = -1 → Q (some (.int (-1))) m)
    (h1 : msok m kd tw mi dn rt sd rc b = true → ∀ i : Nat, i < 60 → mfr m = (i : Int) → ∀ m1, Fm [115, 116, 117, 118] [6, 7, 8, 13, 14] m m1 → Acted m m1 lt kp → Made m m1 i (iI kd) (iI mi) (iI tw) (iI (mrc kd rc b)) → (∀ q, q < 256 → wb (mv m1 116 i) q = mlk m (mbs m tw.toNat) (mab m tw.toNat) dn rt sd (mrc kd rc b) (!decide (kd = 3)) q) → (∀ j, ¬ (4 * i ≤ j ∧ j < 4 * i + 4) → m1.2.1 116 j = m.2.1 116 j) → Q (some (.int (iI (i : Int)))) m1) :
    am_WP YL 184 0 0 0 [some (.ref 109), some (.int (iI kd)), some (.int (iI tw)), some (.int (iI mi)), some (.int (iI dn)), some (.int (iI rt)), some (.int (iI sd)), some (.int (iI rc)), some (.int (iI b)), none, none, none] [] m Q := by
  have n5 : (m.1 109 5).toInt = (n : Int) := by rw [hT.2.1, iI_to (by omega) (by have := hT.1; omega)]
  have hn := hT.1
  have e1 : iI kd = (1 : Int32) ↔ kd = 1 := iI_eq (b := 1) (by omega) (by omega) (by omega) (by omega)
  have e2 : iI kd = (2 : Int32) ↔ kd = 2 := iI_eq (b := 2) (by omega) (by omega) (by omega) (by omega)
  have e3 : iI kd = (3 : Int32) ↔ kd = 3 := iI_eq (b := 3) (by omega) (by omega) (by omega) (by omega)
  refine B_X11_sight_0 m Q _ _ _ _ _ _ _ _ (S_isIn m _ kd 0 3 (by omega) (by omega) (by omega) (by omega) (by omega) (by omega) (B_X11_sight_6 m Q _ _ _ _ _ _ _ _ _ (bz (fun z => h0 (Or.inl (by unfold msok; rw [z, Bool.false_and]))) (fun z1 => ?_))))
  have et : (m.1 109 5) - (1 : Int32) = iI ((n : Int) - 1) := by rw [hT.2.1, show (1 : Int32) = iI 1 from rfl, iI_sub]
  rw [et]
  refine S_isIn m _ tw 0 ((n : Int) - 1) (by omega) (by omega) (by omega) (by omega) (by omega) (by omega) (B_X11_sight_20 m Q _ _ _ _ _ _ _ _ _ (bz (fun z => h0 (Or.inl (by unfold msok; rw [n5, z, Bool.false_and, Bool.and_false]))) (fun z2 => ?_)))
  refine S_isLooked m _ mi dn rt sd hbmi hbdn hbrt hbsd (B_X11_sight_33 m Q _ _ _ _ _ _ _ _ _ (bz' (fun z => h0 (Or.inl (by unfold msok; rw [z, Bool.false_and, Bool.and_false, Bool.and_false]))) (fun z3 => ?_)))
  have t2 := of_decide_eq_true z2
  obtain ⟨y1, y⟩ := Bool.and_eq_true_iff.mp z3
  obtain ⟨y2, y⟩ := Bool.and_eq_true_iff.mp y
  obtain ⟨y3, y⟩ := Bool.and_eq_true_iff.mp y
  obtain ⟨y4, y5⟩ := Bool.and_eq_true_iff.mp y
  have y2 := of_decide_eq_true y2
  have y3 := of_decide_eq_true y3
  have y5 := of_decide_eq_true y5
  obtain ⟨t, ht⟩ : ∃ t : Nat, tw = (t : Int) := ⟨tw.toNat, by omega⟩
  subst ht
  have tb := mtw_b hT (show t < n by omega)
  have ctw : (iI (t : Int)).toNatClampNeg = t := by rw [iI_cl (by omega) (by omega), Int.toNat_natCast]
  have vtw : vp_in (iI (t : Int)) 8 := (iI_in (by omega) (by omega)).mpr (by omega)
  -- with the reach known
  have tail : ∀ hz : Int, 0 ≤ hz → hz ≤ 100 → (!(decide (kd = 1) || decide (kd = 2)) || inR rc 1 40) = true → (!decide (kd = 2) || hzk b) = true → (kd = 1 → hz = 0) → (kd = 2 → hz = (hzv b).toInt) → am_WP YL 184 0 0 112 [some (.ref 109), some (.int (iI kd)), some (.int (iI (t : Int))), some (.int (iI mi)), some (.int (iI dn)), some (.int (iI rt)), some (.int (iI sd)), some (.int (iI rc)), none, some (.int (bI (decide (kd = 1) || decide (kd = 2)))), some (.int (iI hz)), none] [] m Q := by
    intro hz hz0 hz1 ok1 ok2 c1 c2
    have rb := mrc_b ok1 ok2
    have ok : msok m kd t mi dn rt sd rc b = true := by
      unfold msok
      rw [n5, z1, z2, z3, ok1, ok2]
      rfl
    refine B_X11_sight_112 m Q _ _ _ _ _ _ _ _ _ (S_made m _ lt kp hl hk h14 h13 (iI kd) (iI mi) (fun z => ?_) (fun i hi hfr m1 f1 ac st sn => ?_))
    · exact B_X11_sight_118 m Q _ _ _ _ _ _ _ _ _ ⟨fun w => absurd rfl w, fun _ => h0 (Or.inr z)⟩
    · have a1 : (120 : Int32) + iI (i : Int) = iI ((120 + i : Nat) : Int) := iI_add 120 _
      have a2 : (240 : Int32) + iI (i : Int) = iI ((240 + i : Nat) : Int) := iI_add 240 _
      have v1 : vp_in (iI ((120 + i : Nat) : Int)) 350 := (iI_in (by omega) (by omega)).mpr (by omega)
      have v2 : vp_in (iI ((240 + i : Nat) : Int)) 350 := (iI_in (by omega) (by omega)).mpr (by omega)
      have d1 : (iI ((120 + i : Nat) : Int)).toNatClampNeg = 120 + i := by rw [iI_cl (by omega) (by omega), Int.toNat_natCast]
      have d2 : (iI ((240 + i : Nat) : Int)).toNatClampNeg = 240 + i := by rw [iI_cl (by omega) (by omega), Int.toNat_natCast]
      refine B_X11_sight_118 m1 Q _ _ _ _ _ _ _ _ _ ⟨fun _ => B_X11_sight_128 m1 Q _ _ _ _ _ _ _ _ _ ?_, fun w => absurd ((iI_eq (b := -1) (by omega) (by omega) (by omega) (by omega)).mp w) (by omega)⟩
      rw [a1, d1]
      refine ⟨v1, B_X11_sight_139 _ Q _ _ _ _ _ _ _ _ _ ?_⟩
      rw [a2, d2]
      have M1 := Made_of hi st
      -- the look
      have lookit : ∀ m2, Fm [115, 116, 117, 118] [6, 7, 8, 13, 14] m m2 → Fm [115] [] m1 m2 → Made m m2 i (iI kd) (iI mi) (iI (t : Int)) (iI (mrc kd rc b)) → am_WP YL 184 0 0 166 [some (.ref 109), some (.int (iI kd)), some (.int (iI (t : Int))), none, some (.int (iI dn)), some (.int (iI rt)), some (.int (iI sd)), none, none, none, none, some (.int (iI (i : Int)))] [] m2 Q := by
        intro m2 g2 f2 M2
        refine B_X11_sight_166 m2 Q _ _ _ _ _ _ ?_
        have er : m2.1 115 (240 + i) = iI (mrc kd rc b) := by rw [M2, if_pos rfl]
        rw [a2, d2, ctw, er, g2.1 113 (by decide) (by decide), g2.1 114 (by decide) (by decide), tb.1, tb.2.2.1, e3]
        have go : ∀ asks : Bool, asks = !decide (kd = 3) → am_WP YL 181 0 0 0 [some (.ref 109), some (.ref 116), some (.int (iI (i : Int))), some (.int (iI (mbs m t : Int))), some (.int (iI (mab m t))), some (.int (iI dn)), some (.int (iI rt)), some (.int (iI sd)), some (.int (iI (mrc kd rc b))), some (.int (bI asks)), none, none, none, none, none] [] m2 (fun r1 m1 => am_WP YL 184 0 0 215 [none, none, none, none, none, none, none, none, none, none, none, some (.int (iI (i : Int)))] (am_pu r1 []) m1 Q) := by
          intro asks ha
          refine S_look m2 _ 116 240 i rfl rfl (by omega) (by decide) (mbs m t) tb.2.1 (mab m t) dn rt sd (mrc kd rc b) asks tb.2.2.2 (by omega) (by omega) (by omega) (by omega) (g2.h (by decide) hW.h) (fun m3 f3 w3 => B_X11_sight_215 m3 Q _ ?_)
          refine h1 ok i hi hfr m3 (g2.tr (Fm.S f3 (by decide) (by decide))) ?_ ?_ ?_ ?_
          · refine ac.fr ?_ ?_ ?_ ?_
            · rw [f3.2.1 14 (by decide) (by decide) (by decide), f2.2.2.1 14 (by decide)]
            · rw [f3.2.1 13 (by decide) (by decide) (by decide), f2.2.2.1 13 (by decide)]
            · rw [f3.1 117 (by decide), f2.1 117 (by decide) (by decide)]
            · rw [f3.2.2.1 118 (by decide), f2.2.1 118 (by decide)]
          · unfold Made
            rw [f3.1 115 (by decide)]
            exact M2
          · intro q hq
            rw [w3 q hq, mlk_fr g2 (by decide) (by decide), ha, Int.toNat_natCast]
          · intro j hj
            rw [f3.2.2.2.1 j hj, f2.2.1 116 (by decide), sn j, if_neg hj]
        refine ⟨vtw, vtw, v2, fun z => go false (by rw [decide_eq_true z]; rfl), fun z => go true (by rw [decide_eq_false z]; rfl)⟩
      have g1 : Fm [115, 116, 117, 118] [6, 7, 8, 13, 14] m m1 := f1.sub (by decide) (by decide)
      have M3 : Made m (am_pI m1 115 (120 + i) (iI (t : Int))) i (iI kd) (iI mi) (iI (t : Int)) (-1) := by
        intro k
        rw [am_pI_at]
        by_cases c : k = 120 + i
        · rw [if_pos c, if_neg (by omega), if_neg (by omega), if_pos c]
        · rw [if_neg c, M1 k, if_neg (show ¬ k = 120 + i from c), if_neg (show ¬ k = 120 + i from c)]
      refine bz (fun z => ?_) (fun z => ⟨v2, ?_⟩)
      · refine lookit _ (g1.pI (by decide) (by decide) _ _) ((Fm.rf _ _ _).pI (by decide) (by decide) _ _) ?_
        have : mrc kd rc b = -1 := by
          have := Bool.or_eq_false_iff.mp z
          unfold mrc
          rw [if_neg (of_decide_eq_false this.1), if_neg (of_decide_eq_false this.2)]
        rw [this]
        exact M3
      · rw [z] at ok1
        have r1 := of_decide_eq_true ok1
        rw [hz_cut r1.1 r1.2 hz0 hz1]
        refine lookit _ ((g1.pI (by decide) (by decide) _ _).pI (by decide) (by decide) _ _) (((Fm.rf _ _ _).pI (by decide) (by decide) _ _).pI (by decide) (by decide) _ _) ?_
        have : rc - rc * hz / 100 = mrc kd rc b := by
          unfold mrc
          by_cases c : kd = 1
          · rw [if_pos c, c1 c]
            omega
          · rw [if_neg c]
            by_cases c' : kd = 2
            · rw [if_pos c', c2 c']
            · rw [decide_eq_false c, decide_eq_false c'] at z
              cases z
        rw [this]
        intro k
        rw [am_pI_at]
        by_cases c : k = 240 + i
        · rw [if_pos c, if_pos c]
        · rw [if_neg c, if_neg c]
          have := M3 k
          rw [if_neg c] at this
          exact this
  have mid : (!(decide (kd = 1) || decide (kd = 2)) || inR rc 1 40) = true → am_WP YL 184 0 0 73 [some (.ref 109), some (.int (iI kd)), some (.int (iI (t : Int))), some (.int (iI mi)), some (.int (iI dn)), some (.int (iI rt)), some (.int (iI sd)), some (.int (iI rc)), some (.int (iI b)), some (.int (bI (decide (kd = 1) || decide (kd = 2)))), none, none] [] m Q := by
    intro ok1
    refine B_X11_sight_73 m Q _ _ _ _ _ _ _ _ _ ?_
    rw [e2]
    refine ⟨fun z => ?_, fun z zq hzq => ?_⟩
    · exact tail 0 (by decide) (by decide) ok1 (by rw [decide_eq_false z]; rfl) (fun _ => rfl) (fun w => absurd w z)
    · have no : hzk b = false → Q (some (.int (-1))) m := fun w => h0 (Or.inl (by
        unfold msok
        rw [w, decide_eq_true z, Bool.not_true, Bool.false_or, Bool.and_false, Bool.and_false, Bool.and_false, Bool.and_false]))
      have hq : zqs (iI b) zq := hzq
      cases hb : hzk b with
      | false =>
        have r := hz_no (by omega) (by omega) hb hq
        refine ⟨fun _ => no hb, fun x => ⟨fun y => ?_, fun _ => no hb⟩⟩
        rcases r with r | r
        · exact absurd r x
        · exact absurd y r
      | true =>
        obtain ⟨r1, r2, r3, r4⟩ := hz_yes (by omega) (by omega) hb hq
        have zb := hzv_b hb
        refine ⟨fun x => absurd x r1, fun _ => ⟨fun _ => ⟨r3, ?_⟩, fun y => absurd r2 y⟩⟩
        rw [r4, ← iI_self (hzv b)]
        exact tail _ zb.1 zb.2 ok1 (by rw [hb, Bool.or_true]) (fun w => by omega) (fun _ => rfl)
  have at55 : ∀ x : Bool, x = (decide (kd = 1) || decide (kd = 2)) → am_WP YL 184 0 0 55 [some (.ref 109), some (.int (iI kd)), some (.int (iI (t : Int))), some (.int (iI mi)), some (.int (iI dn)), some (.int (iI rt)), some (.int (iI sd)), some (.int (iI rc)), some (.int (iI b)), some (.int (bI x)), none, none] [] m Q := by
    intro x hx
    refine B_X11_sight_55 m Q _ _ _ _ _ _ _ _ _ (bz (fun z => ?_) (fun z => ?_))
    · rw [hx]
      exact mid (by rw [← hx, z]; rfl)
    · refine S_isIn m _ rc 1 40 (by omega) (by omega) (by omega) (by omega) (by omega) (by omega) (B_X11_sight_68 m Q _ _ _ _ _ _ _ _ _ _ (bz' (fun w => h0 (Or.inl ?_)) (fun w => ?_)))
      · unfold msok
        rw [← hx, z, w, Bool.not_true, Bool.false_or, Bool.false_and, Bool.and_false, Bool.and_false, Bool.and_false]
      · rw [hx]
        exact mid (by rw [w, Bool.or_true])
  refine B_X11_sight_38 m Q _ _ _ _ _ _ _ _ ?_
  rw [e1, e2]
  refine ⟨fun z => at55 true (by rw [decide_eq_true z]; rfl), fun z => ⟨fun w => at55 false (by rw [decide_eq_false z, decide_eq_false w]; rfl), fun w => at55 true (by rw [decide_eq_true w, Bool.or_true])⟩⟩
