/-! ===== the reference's fewest, whole ===== -/
def mON (m : am_M) (sel : Nat → Bool) (g : Nat) : Prop := pON m (brn sel 60) g
def mem0 (m : am_M) (i : Nat) : Bool := decide (fb_ct (wb (mv m 116 i)) 256 = 0)
theorem S_mfewest (m : am_M) (Q : Option Value → am_M → Prop) (l1 l2 : Int32)
    (h0 : ∀ m1, Fm [120, 121, 122] [] m m1 → (10 < fb_ct (msl m l1 l2) 60 ∨ ∃ i, i < 60 ∧ msl m l1 l2 i = true ∧ ∀ q, q < 256 → wb (mv m 116 i) q = false) → Q (some (.int (-1))) m1)
    (h1 : ∀ m1 F, Fm [120, 121, 122] [] m m1 → fb_ct (msl m l1 l2) 60 ≤ 10 → (∀ i, i < 60 → msl m l1 l2 i = true → ∃ q, q < 256 ∧ wb (mv m 116 i) q = true) → F 0 = 0 → (∀ g, 0 < g → g < 2 ^ fb_ct (msl m l1 l2) 60 → FL (mON m (msl m l1 l2)) F g ∧ F g ≤ 10) → Q (some (.int (iI (F (2 ^ fb_ct (msl m l1 l2) 60 - 1) : Int)))) m1) :
    am_WP YL 203 0 0 0 [some (.ref 109), some (.int l1), some (.int l2), none, none, none, none, none, none, none] [] m Q := by
  refine B_X11_fewest_0 m Q _ _ ?_
  have tail : ∀ m0, Fm [120] [] m m0 → fb_ct (msl m l1 l2) 60 ≤ 10 → (∀ i, i < 60 → msl m l1 l2 i = true → ∃ q, q < 256 ∧ wb (mv m 116 i) q = true) → (∀ i, i < 60 → msl m l1 l2 i = true → m0.1 120 (fb_ct (msl m l1 l2) i) = iI (i : Int)) → am_WP YL 203 0 0 125 [some (.ref 109), none, none, some (.int (iI (fb_ct (msl m l1 l2) 60 : Int))), none, some (.int 1), none, none, none, none] [] (am_pI m0 121 0 0) Q := by
    intro m0 f0 hn hne hp0
    have bk := @brn_ok (msl m l1 l2) 60
    generalize hsel : msl m l1 l2 = sel at hn hne hp0 h1 bk ⊢
    have hpl : ∀ j, j < fb_ct sel 60 → m0.1 120 j = iI (brn sel 60 j : Int) ∧ brn sel 60 j < 60 := fun j hj => by
      obtain ⟨a, b, c⟩ := bk hj
      have := hp0 _ a b
      rw [c] at this
      exact ⟨this, a⟩
    have hO1 : ∀ k, k < fb_ct sel 60 → mON m sel (2 ^ k) := fun k hk => by
      obtain ⟨a, b, _⟩ := bk hk
      exact ONE_single (hne _ a b)
    generalize hpe : brn sel 60 = pl at hpl
    have eON : ∀ g, mON m sel g = pON m pl g := fun g => by unfold mON; rw [hpe]
    generalize fb_ct sel 60 = n at *
    have hN := p2_10 hn
    have hN1 : 1 ≤ 2 ^ n := Nat.one_le_two_pow
    have pON_fr : ∀ {A : List Nat} {m1 : am_M}, Fm A [] m m1 → 115 ∉ A → 116 ∉ A → ∀ g, pON m1 pl g = pON m pl g := by
      intro A m1 f a b g
      unfold pON
      have e1 : (fun i j => mak m1 (pl i) (pl j)) = fun i j => mak m (pl i) (pl j) := by
        funext i j
        unfold mak
        rw [f.1 115 a (by decide)]
      have e2 : (fun j q => wb (mv m1 116 (pl j)) q) = fun j q => wb (mv m 116 (pl j)) q := by
        funext j q
        unfold mv
        rw [f.2.1 116 b]
      rw [e1, e2]
    -- the third pass
    have third : ∀ m1, Fm [120, 121, 122] [] m m1 → m1.1 121 0 = 0 → (∀ g, 0 < g → g < 2 ^ n → (pON m pl g ∧ m1.1 121 g = 1) ∨ (¬ pON m pl g ∧ m1.1 121 g = 1000000000)) → am_WP YL 203 0 0 412 [some (.ref 109), none, none, some (.int (iI (n : Int))), none, some (.int 1), none, none, none, none] [] m1 Q := by
      intro m1 f1 z1 t1
      have := lp (N := 2 ^ n - 1) (W := fun k m2 => am_WP YL 203 0 0 412 [some (.ref 109), none, none, some (.int (iI (n : Int))), none, some (.int (iI ((k + 1 : Nat) : Int))), none, none, none, none] [] m2 Q) (fun k m2 => Fm [121] [] m1 m2 ∧ m2.1 121 0 = 0 ∧ (∀ g, k < g → m2.1 121 g = m1.1 121 g) ∧ ∃ F : Nat → Nat, F 0 = 0 ∧ ∀ g, 0 < g → g ≤ k → m2.1 121 g = iI (F g : Int) ∧ FL (pON m pl) F g ∧ F g ≤ pcn g) (s := m1) ⟨Fm.rf _ _ _, z1, fun _ _ => rfl, fun _ => 0, rfl, fun g a b => by omega⟩ ?_ ?_
      · exact this
      · rintro k m2 hk ⟨f2, z2, b2, F, F0, F1⟩ ih
        have hO' : ∀ k, k < n → pON m pl (2 ^ k) := fun k hk => by rw [← eON]; exact hO1 k hk
        refine S_mfc m2 Q n hn (pON m pl) hO' F (k + 1) (by omega) (by omega) (fun x x1 x2 => F1 x x1 (by omega)) (by rw [b2 (k + 1) (by omega)]; exact t1 (k + 1) (by omega) (by omega)) (fun m3 v f3 a1 a2 a3 => ih m3 ⟨f2.tr f3, ?_, fun g hg => ?_, fun x => if x = k + 1 then v else F x, ?_, fun g g1 g2 => ?_⟩)
        · rw [a1 0 (by omega)]; exact z2
        · rw [a1 g (by omega)]; exact b2 g (by omega)
        · dsimp only
          rw [if_neg (by omega)]; exact F0
        · by_cases c : g = k + 1
          · subst c
            refine ⟨by dsimp only; rw [if_pos rfl]; exact a2, a3, FL_le' hn hO' (by omega) (by omega) a3 (fun p p1 p2 => ?_)⟩
            rw [if_neg (by omega)]
            exact (F1 p p1 (by omega)).2.2
          · obtain ⟨x, y, z⟩ := F1 g g1 (by omega)
            refine ⟨by dsimp only; rw [if_neg c, a1 g c]; exact x, FL_fr g1 (fun x hx => (if_neg (by omega)).symm) y, ?_⟩
            dsimp only
            rw [if_neg c]
            exact z
      · rintro m2 ⟨f2, z2, b2, F, F0, F1⟩
        refine B_X11_fewest_412 m2 Q _ _ ⟨fun _ => ?_, fun z => ?_⟩
        · rw [iI_sh1 (by omega), show (1 : Int32) = iI 1 from rfl, iI_sub, show ((2 ^ n : Nat) : Int) - 1 = ((2 ^ n - 1 : Nat) : Int) by omega]
          refine ⟨(iI_in (by omega) (by omega)).mpr (by omega), ?_⟩
          rw [iI_cl (by omega) (by omega), Int.toNat_natCast]
          have e : m2.1 121 (2 ^ n - 1) = iI (F (2 ^ n - 1) : Int) := by
            rcases Nat.eq_zero_or_pos (2 ^ n - 1) with c | c
            · rw [c, z2, F0]; rfl
            · exact (F1 _ c (Nat.le_refl _)).1
          rw [e]
          refine h1 m2 F (f1.tr (f2.sub (by decide) (by decide))) hn hne F0 (fun g g1 g2 => ?_)
          obtain ⟨_, y, z⟩ := F1 g g1 (by omega)
          have := pcn_10 (g := g) (by omega)
          refine ⟨?_, by omega⟩
          rw [show mON m sel = pON m pl from funext eON]
          exact y
        · rw [iI_sh1 (by omega)] at z
          exact absurd ((iI_le (by omega) (by omega) (by omega) (by omega)).mpr (by omega)) z
    -- the second pass
    have := lp (N := 2 ^ n - 1) (W := fun k m1 => am_WP YL 203 0 0 125 [some (.ref 109), none, none, some (.int (iI (n : Int))), none, some (.int (iI ((k + 1 : Nat) : Int))), none, none, none, none] [] m1 Q) (fun k m1 => Fm [121, 122] [] m0 m1 ∧ m1.1 121 0 = 0 ∧ ∀ g, 0 < g → g ≤ k → ((pON m pl g ∧ m1.1 121 g = 1) ∨ (¬ pON m pl g ∧ m1.1 121 g = 1000000000)) ∧ ∀ q, q < 256 → (wb (mv m1 122 g) q = true ↔ ∀ j, g.testBit j = true → wb (mv m 116 (pl j)) q = true)) (s := am_pI m0 121 0 0) ⟨(Fm.rf _ _ _).pI (by decide) (by decide) _ _, by rw [am_pI_at, if_pos rfl], fun g a b => by omega⟩ ?_ ?_
    · exact this
    · rintro k m1 hk ⟨f1, z1, t1⟩ ih
      have fr : Fm [120, 121, 122] [] m m1 := (f0.sub (by decide) (by decide)).tr (f1.sub (by decide) (by decide))
      have p1 := pON_fr fr (by decide) (by decide)
      have w116 : ∀ j q, wb (mv m1 116 (pl j)) q = wb (mv m 116 (pl j)) q := fun j q => by unfold mv; rw [fr.2.1 116 (by decide)]
      refine B_X11_fewest_125 m1 Q _ _ ⟨fun z => ?_, fun _ => S_mfb m1 Q n hn pl (fun j hj => ?_) (k + 1) (by omega) (by omega) (fun x x1 x2 => ⟨?_, fun q hq => ?_⟩) (fun m2 f2 a1 a2 a3 => ih m2 ⟨f1.tr f2, ?_, fun g g1 g2 => ⟨?_, fun q hq => ?_⟩⟩)⟩
      · rw [iI_sh1 (by omega)] at z
        exact absurd ((iI_le (by omega) (by omega) (by omega) (by omega)).mp z) (by omega)
      · rw [f1.1 120 (by decide) (by decide)]
        exact hpl j hj
      · rw [p1]
        rcases (t1 x x1 (by omega)).1 with ⟨c, d⟩ | ⟨c, d⟩
        · exact ⟨fun _ => c, fun _ => d⟩
        · exact ⟨fun y => by rw [d] at y; exact absurd y (by decide), fun y => absurd y c⟩
      · rw [(t1 x x1 (by omega)).2 q hq]
        exact ⟨fun y j hj => by rw [w116]; exact y j hj, fun y j hj => by rw [← w116]; exact y j hj⟩
      · rw [(a1 0 (by omega)).1]; exact z1
      · by_cases c : g = k + 1
        · subst c
          rw [p1] at a2
          exact a2
        · rw [(a1 g (by omega)).1]
          exact (t1 g g1 (by omega)).1
      · by_cases c : g = k + 1
        · subst c
          rw [a3 q hq]
          exact ⟨fun y j hj => by rw [← w116]; exact y j hj, fun y j hj => by rw [w116]; exact y j hj⟩
        · rw [wb4 (a1 g (by omega)).2 hq]
          exact (t1 g g1 (by omega)).2 q hq
    · rintro m1 ⟨f1, z1, t1⟩
      refine B_X11_fewest_125 m1 Q _ _ ⟨fun _ => third m1 ((f0.sub (by decide) (by decide)).tr (f1.sub (by decide) (by decide))) z1 (fun g g1 g2 => (t1 g g1 (by omega)).1), fun z => ?_⟩
      rw [iI_sh1 (by omega)] at z
      exact absurd ((iI_le (by omega) (by omega) (by omega) (by omega)).mpr (by omega)) z
  have := lp (N := 60) (W := fun k m1 => am_WP YL 203 0 0 8 [some (.ref 109), some (.int l1), some (.int l2), some (.int (iI (fb_ct (msl m l1 l2) k : Int))), some (.int (bI (anyb (fun i => msl m l1 l2 i && mem0 m i) k))), some (.int (iI (k : Int))), none, none, none, none] [] m1 Q) (fun k m1 => Fm [120] [] m m1 ∧ ∀ i, i < k → msl m l1 l2 i = true → fb_ct (msl m l1 l2) i < 10 → m1.1 120 (fb_ct (msl m l1 l2) i) = iI (i : Int)) (s := m) ⟨Fm.rf _ _ _, fun i hi => absurd hi (Nat.not_lt_zero i)⟩ ?_ ?_
  · exact this
  · rintro k m1 hk ⟨f1, p1⟩ ih
    have cl := fb_ct_le (msl m l1 l2) k
    have e60 : (60 : Int32) + iI (k : Int) = iI ((60 + k : Nat) : Int) := iI_add 60 _
    have e115 : m1.1 115 = m.1 115 := f1.1 115 (by decide) (by decide)
    have ems : msi m1 (k : Int) = msi m (k : Int) := msi_fr f1 (by decide) _
    have eab : anyb (fun i => msl m l1 l2 i && mem0 m i) (k + 1) = (anyb (fun i => msl m l1 l2 i && mem0 m i) k || (msl m l1 l2 k && mem0 m k)) := rfl
    have es : msl m l1 l2 k = (msi m (k : Int) && (!decide (m.1 115 (60 + k) < l1) && !decide (l2 < m.1 115 (60 + k)))) := rfl
    have skip : msl m l1 l2 k = false → am_WP YL 203 0 0 8 [some (.ref 109), some (.int l1), some (.int l2), some (.int (iI (fb_ct (msl m l1 l2) k : Int))), some (.int (bI (anyb (fun i => msl m l1 l2 i && mem0 m i) k))), some (.int (iI ((k : Int) + 1))), none, none, none, none] [] m1 Q := by
      intro z
      have ih := ih m1 ⟨f1, fun i hi hs hl => p1 i (by
        rcases Nat.lt_or_ge i k with c | c
        · exact c
        · rw [show i = k by omega, z] at hs
          cases hs) hs hl⟩
      rw [fb_ct_succ, eab, z, Bool.false_and, Bool.or_false] at ih
      exact ih
    have vk : vp_in (iI ((60 + k : Nat) : Int)) 350 := (iI_in (by omega) (by omega)).mpr (by omega)
    refine B_X11_fewest_8 m1 Q _ _ _ _ _ ⟨fun z => absurd ((iI_le (a := 60) (by omega) (by omega) (by omega) (by omega)).mp z) (by omega), fun _ => S_msi m1 _ k (by omega) (B_X11_fewest_21 m1 Q _ _ _ _ _ _ ?_)⟩
    rw [e60, iI_cl (by omega) (by omega), Int.toNat_natCast, ems, e115, iI_i1]
    refine bz (fun z => skip (by rw [es, z, Bool.false_and])) (fun z1 => ⟨vk, fun z => skip (by rw [es, decide_eq_true z]; simp), fun z2 => ⟨vk, fun z3 => ?_, fun z => skip (by rw [es, decide_eq_true (show l2 < m.1 115 (60 + k) from Int32.not_le.mp z)]; simp)⟩⟩)
    have sel : msl m l1 l2 k = true := by rw [es, z1, decide_eq_false z2, decide_eq_false (show ¬ l2 < m.1 115 (60 + k) from Int32.not_lt.mpr z3)]; rfl
    -- one more
    have more : ∀ b : Bool, b = (anyb (fun i => msl m l1 l2 i && mem0 m i) k || mem0 m k) → (((10 : Int32) ≤ iI (fb_ct (msl m l1 l2) k : Int)) → am_WP YL 203 0 0 8 [some (.ref 109), some (.int l1), some (.int l2), some (.int (iI (fb_ct (msl m l1 l2) k : Int) + 1)), some (.int (bI b)), some (.int (iI ((k : Int) + 1))), none, none, none, none] [] m1 Q) ∧ ((¬ (10 : Int32) ≤ iI (fb_ct (msl m l1 l2) k : Int)) → (vp_in (iI (fb_ct (msl m l1 l2) k : Int)) 10 ∧ am_WP YL 203 0 0 8 [some (.ref 109), some (.int l1), some (.int l2), some (.int (iI (fb_ct (msl m l1 l2) k : Int) + 1)), some (.int (bI b)), some (.int (iI ((k : Int) + 1))), none, none, none, none] [] (am_pI m1 120 (iI (fb_ct (msl m l1 l2) k : Int)).toNatClampNeg (iI (k : Int))) Q)) := by
      intro b hb
      have nx : ∀ m2, Fm [120] [] m m2 → (∀ i, i < k + 1 → msl m l1 l2 i = true → fb_ct (msl m l1 l2) i < 10 → m2.1 120 (fb_ct (msl m l1 l2) i) = iI (i : Int)) → am_WP YL 203 0 0 8 [some (.ref 109), some (.int l1), some (.int l2), some (.int (iI (fb_ct (msl m l1 l2) k : Int) + 1)), some (.int (bI b)), some (.int (iI ((k : Int) + 1))), none, none, none, none] [] m2 Q := by
        intro m2 f2 p2
        have ih := ih m2 ⟨f2, p2⟩
        rw [fb_ct_succ, eab, sel, Bool.true_and, ← hb] at ih
        rw [iI_i1]
        exact ih
      refine ⟨fun z => nx m1 f1 (fun i hi hs hl => ?_), fun z => ?_⟩
      · have z := (iI_le (a := 10) (by omega) (by omega) (by omega) (by omega)).mp z
        rcases Nat.lt_or_ge i k with c | c
        · exact p1 i c hs hl
        · rw [show i = k by omega] at hl
          omega
      · have z : fb_ct (msl m l1 l2) k < 10 := by
          rcases Nat.lt_or_ge (fb_ct (msl m l1 l2) k) 10 with c | c
          · exact c
          · exact absurd ((iI_le (a := 10) (by omega) (by omega) (by omega) (by omega)).mpr (by omega)) z
        rw [iI_cl (by omega) (by omega), Int.toNat_natCast]
        refine ⟨(iI_in (by omega) (by omega)).mpr (by omega), nx _ (f1.pI (by decide) (by decide) _ _) (fun i hi hs hl => ?_)⟩
        rw [am_pI_at]
        rcases Nat.lt_or_ge i k with c | c
        · have l : fb_ct (msl m l1 l2) i < fb_ct (msl m l1 l2) k := by
            have a := fb_ct_mono (msl m l1 l2) (show i + 1 ≤ k by omega)
            rw [fb_ct_succ, hs] at a
            have : (if true = true then 1 else 0) = 1 := rfl
            omega
          rw [if_neg (by omega)]
          exact p1 i c hs hl
        · have : i = k := by omega
          rw [this, if_pos rfl]
    refine bz' (fun y => ?_) (fun y => ?_)
    · refine S_msize m1 _ 116 240 k rfl (by decide) (by omega) (by omega) (B_X11_fewest_69 m1 Q _ _ _ _ _ ?_)
      have ew : wb (mv m1 116 k) = wb (mv m 116 k) := by unfold mv; rw [f1.2.1 116 (by decide)]
      have sz := fb_ct_le (wb (mv m 116 k)) 256
      have ez : iI (fb_ct (wb (mv m 116 k)) 256 : Int) = 0 ↔ fb_ct (wb (mv m 116 k)) 256 = 0 := by
        rw [show (0 : Int32) = iI 0 from rfl, iI_eq (by omega) (by omega) (by omega) (by omega)]
        omega
      have ek : iI (k : Int) + 1 = iI ((k : Int) + 1) := iI_i1 _
      rw [ew, ez, ek]
      refine ⟨fun z => more false ?_, fun z => more true ?_⟩
      · rw [y, show mem0 m k = false from decide_eq_false z]
        rfl
      · rw [y, show mem0 m k = true from decide_eq_true z]
        rfl
    · exact more true (by rw [y, Bool.true_or])
  · rintro m1 ⟨f1, p1⟩
    have cl := fb_ct_le (msl m l1 l2) 60
    refine B_X11_fewest_8 m1 Q _ _ _ _ _ ⟨fun _ => ⟨fun z => ?_, fun z => ?_⟩, fun z => absurd (show (60 : Int32) ≤ iI ((60 : Nat) : Int) by decide) z⟩
    · have := (iI_lt (a := 10) (by omega) (by omega) (by omega) (by omega)).mp z
      exact h0 m1 (f1.sub (by decide) (by decide)) (Or.inl (by omega))
    · have z : fb_ct (msl m l1 l2) 60 ≤ 10 := by
        rcases Nat.lt_or_ge 10 (fb_ct (msl m l1 l2) 60) with c | c
        · exact absurd ((iI_lt (a := 10) (by omega) (by omega) (by omega) (by omega)).mpr (by omega)) z
        · exact c
      refine bz (fun y => ?_) (fun y => h0 m1 (f1.sub (by decide) (by decide)) (Or.inr ?_))
      · have y := anyb_f.mp y
        refine tail m1 f1 z (fun i hi hs => ?_) (fun i hi hs => p1 i hi hs ?_)
        · have := y i hi
          rw [hs, Bool.true_and] at this
          exact fb_ct_pos.mp (by have := of_decide_eq_false this; omega)
        · have a := fb_ct_mono (msl m l1 l2) (show i + 1 ≤ 60 by omega)
          rw [fb_ct_succ, hs] at a
          have : (if true = true then 1 else 0) = 1 := rfl
          omega
      · refine Classical.byContradiction (fun w => ?_)
        have : anyb (fun i => msl m l1 l2 i && mem0 m i) 60 = false := anyb_f.mpr (fun i hi => by
          cases c : msl m l1 l2 i
          · rfl
          · cases d : mem0 m i
            · rfl
            · refine absurd ⟨i, hi, c, fun q hq => ?_⟩ w
              cases e : wb (mv m 116 i) q
              · rfl
              · have := fb_ct_pos.mpr ⟨q, hq, e⟩
                have := of_decide_eq_true d
                omega)
        rw [this] at y
        cases y
