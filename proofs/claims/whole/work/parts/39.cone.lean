theorem S_countInCone (m : am_M) (Q : Option Value → am_M → Prop) (a : Nat) (ha : sw_sq m a) (f : Nat) (hf : f < 256) (dn rt sd : Int) (h1 : dn.natAbs ≤ 50) (h2 : rt.natAbs ≤ 50) (h3 : sd.natAbs ≤ 400)
    (h : Q (some (.int (iI (fb_ct (fun q => wb (m.2.1 (a + 1)) q && icone f q dn rt sd) 256 : Int)))) m) :
    am_WP YL 111 0 0 0 [none, some (.ref a), some (.int (iI (f : Int))), some (.int (iI dn)), some (.int (iI rt)), some (.int (iI sd)), none, none] [] m Q := by
  refine B_X9_countInCone_0 m Q a ha _ _ _ _ ?_
  have := lp (N := 256) (W := fun k (_ : Unit) => am_WP YL 111 0 0 6 [none, some (.ref a), some (.int (iI (f : Int))), some (.int (iI dn)), some (.int (iI rt)), some (.int (iI sd)), some (.int (iI (fb_ct (fun q => wb (m.2.1 (a + 1)) q && icone f q dn rt sd) k : Int))), some (.int (iI (k : Int)))] [] m Q) (fun _ _ => True) (s := ()) trivial ?_ ?_
  · exact this
  · intro k _ hk _ ih
    have ih := ih () trivial
    rw [fb_ct_succ] at ih
    refine B_X9_countInCone_6 m Q a ha _ _ _ _ _ _ ?_
    simp (disch := omega) only [iI_lit, iI_ofNat, iI_neg, iI_add, iI_sub, iI_mul, iI_lt, iI_le, iI_eq, iI_in, iI_cl]
    refine ⟨fun z => by omega, fun _ => S_has m _ a ha k hk ?_⟩
    refine B_X9_countInCone_20 m Q a ha _ _ _ _ _ _ _ ?_
    simp only [bI_0, iI_s]
    refine ⟨fun y => ?_, fun y => S_isInCone m _ f k hf hk dn rt sd h1 h2 h3 ?_⟩
    · rw [y, Bool.false_and] at ih
      exact ih
    · have y : wb (m.2.1 (a + 1)) k = true := by cases hz : wb (m.2.1 (a + 1)) k; exact absurd hz y; rfl
      rw [y, Bool.true_and] at ih
      refine B_X9_countInCone_34 m Q a ha _ _ _ _ _ _ _ ?_
      simp only [bI_0, iI_s]
      refine ⟨fun x => ?_, fun x => ?_⟩
      · rw [x] at ih
        exact ih
      · have x : icone f k dn rt sd = true := by cases hz : icone f k dn rt sd; exact absurd hz x; rfl
        rw [x] at ih
        exact ih
  · intro _ _
    refine B_X9_countInCone_6 m Q a ha _ _ _ _ _ _ ?_
    exact ⟨fun _ => h, fun z => absurd (show (256 : Int32) ≤ iI ((256 : Nat) : Int) by decide) z⟩
