/-! ===== the class's groups ===== -/
def anyb (p : Nat → Bool) : Nat → Bool
  | 0 => false
  | k + 1 => anyb p k || p k
theorem anyb_f {p : Nat → Bool} : ∀ {k : Nat}, anyb p k = false ↔ ∀ i, i < k → p i = false
  | 0 => ⟨fun _ i hi => absurd hi (Nat.not_lt_zero i), fun _ => rfl⟩
  | k + 1 => by
    show (anyb p k || p k) = false ↔ _
    rw [Bool.or_eq_false_iff, anyb_f]
    constructor
    · rintro ⟨a, b⟩ i hi
      by_cases c : i = k
      · rw [c]; exact b
      · exact a i (by omega)
    · intro h
      exact ⟨fun i hi => h i (by omega), h k (Nat.lt_succ_self k)⟩
theorem ecl_fr {m m1 : am_M} {e o : Nat} (he : m1.1 e = m.1 e) (ho : m1.1 o = m.1 o) : ecl m1 e o = ecl m e o := by
  unfold ecl
  rw [he, ho]
def GT (m : am_M) (n : Nat) (tk ts : Nat → Nat) : Prop := m.1 102 3 = iI (n : Int) ∧ n ≤ 10 ∧ ∀ j, j < n → am_gR YL m 103 j = some (tk j) ∧ EnOK m (tk j) ∧ am_gR YL m (tk j) 4 = some (ts j) ∧ ∃ q, q < 256 ∧ wb (m.2.1 (ts j + 1)) q = true
theorem GT.fr {A : List Nat} {m m1 : am_M} (h : Ar A m m1) (hA : ∀ a, a ∈ A → a < 133) (h2 : 102 ∉ A) (h3 : 103 ∉ A) {n : Nat} {tk ts : Nat → Nat} (hG : GT m n tk ts) : GT m1 n tk ts := by
  refine ⟨by rw [h.I h2]; exact hG.1, hG.2.1, fun j hj => ?_⟩
  obtain ⟨a, b, c, d⟩ := hG.2.2 j hj
  have := (b.2.2.2 _ c).2.1
  have := b.2.1
  refine ⟨by rw [h.R h3]; exact a, b.fr h hA, by rw [h.R (fun z => by have := hA _ z; omega)]; exact c, ?_⟩
  rw [h.J (fun z => by have := hA _ z; omega)]
  exact d
theorem S_ahead (m : am_M) (Q : Option Value → am_M → Prop) (n : Nat) (tk ts : Nat → Nat) (hG : GT m n tk ts) (g : Nat) (hg : g < 1024) (k : Nat) (hk : k < n) (h : Q (some (.int (bI (anyb (fun i => g.testBit i && ecl m (tk i) (tk k)) k)))) m) : am_WP YL 43 0 0 0 [some (.ref 102), some (.int (iI (g : Int))), some (.int (iI (k : Int))), none, none] [] m Q := by
  have hn := hG.2.1
  refine B_X3_clashesAhead_0 m Q _ _ ?_
  have := lp (N := k) (W := fun j (_ : Unit) => am_WP YL 43 0 0 2 [some (.ref 102), some (.int (iI (g : Int))), some (.int (iI (k : Int))), some (.int (iI (j : Int))), none] [] m Q) (fun j _ => anyb (fun i => g.testBit i && ecl m (tk i) (tk k)) j = false) (s := ()) rfl ?_ ?_
  · exact this
  · intro j _ hj hI ih
    have ih := fun z => ih () z
    obtain ⟨a1, a2, a3, a4⟩ := hG.2.2 j (by omega)
    obtain ⟨b1, b2, b3, b4⟩ := hG.2.2 k hk
    have vk : vp_in (iI (k : Int)) 10 := (iI_in (by omega) (by omega)).mpr (by omega)
    refine B_X3_clashesAhead_2 m Q _ _ _ ⟨fun z => absurd ((iI_le (by omega) (by omega) (by omega) (by omega)).mp z) (by omega), fun _ => ⟨fun z => absurd ((iI_le (a := 10) (by omega) (by omega) (by omega) (by omega)).mp z) (by omega), fun _ => ⟨(iI_in (by omega) (by omega)).mpr (by omega), ?_⟩⟩⟩
    rw [iI_cl (by omega) (by omega), Int.toNat_natCast, a1]
    have nx : (g.testBit j && ecl m (tk j) (tk k)) = false → am_WP YL 43 0 0 2 [some (.ref 102), some (.int (iI (g : Int))), some (.int (iI (k : Int))), some (.int (iI ((j : Int) + 1))), none] [] m Q := fun z => ih (by
      show (anyb _ j || (g.testBit j && ecl m (tk j) (tk k))) = false
      rw [hI, z]
      rfl)
    refine B_X3_clashesAhead_19r m Q _ _ _ (tk j) a2.1 ⟨fun z => ?_, fun z => ⟨vk, ?_⟩⟩
    · rw [iI_i1]
      exact nx (by rw [(iI_tb (by omega) (by omega)).mp z, Bool.false_and])
    · have tb : g.testBit j = true := by
        cases c : g.testBit j
        · exact absurd ((iI_tb (by omega) (by omega)).mpr c) z
        · rfl
      rw [iI_cl (by omega) (by omega), Int.toNat_natCast, b1]
      refine B_X3_clashesAhead_42r m Q _ _ _ (tk j) a2.1 (tk k) b2.1 (S_clash m _ (tk j) (tk k) a2.1 b2.1 (B_X3_clashesAhead_45 m Q _ _ _ _ (bz (fun y => ?_) (fun y => ?_))))
      · rw [iI_i1]
        exact nx (by rw [y, Bool.and_false])
      · have : anyb (fun i => g.testBit i && ecl m (tk i) (tk k)) k = true := by
          cases c : anyb (fun i => g.testBit i && ecl m (tk i) (tk k)) k
          · have := anyb_f.mp c j hj
            rw [tb, y] at this
            cases this
          · rfl
        rw [this] at h
        exact h
  · intro _ hI
    rw [hI] at h
    exact B_X3_clashesAhead_2 m Q _ _ _ ⟨fun _ => h, fun z => absurd ((iI_le (by omega) (by omega) (by omega) (by omega)).mpr (Int.le_refl _)) z⟩
def gON (m : am_M) (tk ts : Nat → Nat) (g : Nat) : Prop := ONE (fun i j => ecl m (tk i) (tk j)) (fun j q => wb (m.2.1 (ts j + 1)) q) g
theorem S_canBeOne (m : am_M) (Q : Option Value → am_M → Prop) (n : Nat) (tk ts : Nat → Nat) (hG : GT m n tk ts) (g : Nat) (hg : g < 2 ^ n) (h : ∀ m1 b, Ag [106] m m1 → (b = true ↔ gON m tk ts g) → Q (some (.int (bI b))) m1) : am_WP YL 42 0 0 0 [some (.ref 102), some (.int (iI (g : Int))), none, none] [] m Q := by
  have hn := hG.2.1
  have lt : ∀ a, a ∈ [106] → a < 133 := by decide
  have s105 : ∀ m1, sw_sq m1 105 := fun m1 => ⟨rfl, rfl, rfl, rfl⟩
  have hgb : g < 1024 := Nat.lt_of_lt_of_le hg (Nat.pow_le_pow_right (n := 2) (j := 10) (by decide) hn)
  have gb : ∀ j, g.testBit j = true → j < n := fun j hj => by
    by_cases c : j < n
    · exact c
    · rw [Nat.testBit_lt_two_pow (Nat.lt_of_lt_of_le hg (Nat.pow_le_pow_right (by decide) (by omega)))] at hj
      cases hj
  refine B_X3_canBeOne_0 m Q _ (S_fill m _ 105 (s105 m) (B_X3_canBeOne_7 _ Q _ ?_))
  have := lp (N := n) (W := fun k m1 => am_WP YL 42 0 0 9 [some (.ref 102), some (.int (iI (g : Int))), some (.int (iI (k : Int))), none] [] m1 Q) (fun k m1 => Ag [106] m m1 ∧ (∀ q, q < 256 → (wb (m1.2.1 106) q = true ↔ ∀ j, j < k → g.testBit j = true → wb (m.2.1 (ts j + 1)) q = true)) ∧ ∀ i j, i < j → j < k → g.testBit i = true → g.testBit j = true → ecl m (tk i) (tk j) = false) (s := am_wJ m (105 + 1) (am_fx 4 (fun _ => -1) (m.2.1 (105 + 1)))) ⟨(Ag.rf _ _).wJ (by decide) _, fun q hq => ?_, fun i j _ hj => absurd hj (Nat.not_lt_zero j)⟩ ?_ ?_
  · exact this
  · rw [show (105 + 1 : Nat) = 106 from rfl, am_wJ_at, wb_fx hq, wb_ones]
    exact ⟨fun _ j hj => absurd hj (Nat.not_lt_zero j), fun _ => rfl⟩
  · rintro k m1 hk ⟨g1, g2, g3⟩ ih
    have ar : Ar [106] m m1 := Ar.ag g1 (fun _ z => z)
    have hG1 : GT m1 n tk ts := hG.fr ar lt (by decide) (by decide)
    obtain ⟨b1, b2, b3, b4⟩ := hG1.2.2 k hk
    have mb := (hG.2.2 k hk).2
    have sb := b2.2.2.2 _ b3
    have ee : ∀ i, i < n → m1.1 (tk i) = m.1 (tk i) := fun i hi => g1.I (fun z => by
      have := lt _ z
      have := (hG.2.2 i hi).2.1.2.1
      omega)
    have nx : ∀ m2, Ag [106] m m2 → (∀ q, q < 256 → (wb (m2.2.1 106) q = true ↔ ∀ j, j < k + 1 → g.testBit j = true → wb (m.2.1 (ts j + 1)) q = true)) → (∀ i, i < k → g.testBit i = true → g.testBit k = true → ecl m (tk i) (tk k) = false) → am_WP YL 42 0 0 9 [some (.ref 102), some (.int (iI (g : Int))), some (.int (iI ((k : Int) + 1))), none] [] m2 Q := by
      intro m2 f2 w2 e2
      refine ih m2 ⟨f2, w2, fun i j hij hj x y => ?_⟩
      by_cases c : j = k
      · subst c
        exact e2 i hij x y
      · exact g3 i j hij (by omega) x y
    refine B_X3_canBeOne_9 m1 Q _ _ ⟨fun z => ?_, fun _ => ⟨fun z => absurd ((iI_le (a := 10) (by omega) (by omega) (by omega) (by omega)).mp z) (by omega), fun _ => ⟨(iI_in (by omega) (by omega)).mpr (by omega), ?_⟩⟩⟩
    · rw [hG1.1] at z
      exact absurd ((iI_le (by omega) (by omega) (by omega) (by omega)).mp z) (by omega)
    · rw [iI_cl (by omega) (by omega), Int.toNat_natCast, b1]
      refine B_X3_canBeOne_29r m1 Q _ _ (tk k) b2.1 ⟨fun z => ?_, fun z => ?_⟩
      · have tb := (iI_tb (by omega) (by omega)).mp z
        rw [iI_i1]
        refine nx m1 g1 (fun q hq => ?_) (fun i _ _ y => by rw [tb] at y; cases y)
        rw [g2 q hq]
        constructor
        · intro w j hj x
          by_cases c : j = k
          · rw [c, tb] at x
            cases x
          · exact w j (by omega) x
        · intro w j hj x
          exact w j (by omega) x
      · have tb : g.testBit k = true := by
          cases c : g.testBit k
          · exact absurd ((iI_tb (by omega) (by omega)).mpr c) z
          · rfl
        refine S_ahead m1 _ n tk ts hG1 g hgb k hk (B_X3_canBeOne_48 m1 Q _ _ (tk k) b2.1 _ (bz (fun y => ?_) (fun y => ?_)))
        · rw [b3]
          have y := anyb_f.mp y
          refine B_X3_canBeOne_61r m1 Q _ _ 105 (s105 m1) (ts k) sb.1 (S_keepOnly m1 _ 105 (ts k) (s105 m1) sb.1 (by omega) (B_X3_canBeOne_64 _ Q _ _ ?_))
          rw [iI_i1]
          refine nx _ (g1.wJ (by decide) _) (fun q hq => ?_) (fun i hi x _ => ?_)
          · rw [show (105 + 1 : Nat) = 106 from rfl, am_wJ_at, wb_fx hq, wb_and', Bool.and_eq_true, g2 q hq, g1.J (fun z => by have := lt _ z; omega)]
            constructor
            · rintro ⟨w, v⟩ j hj x
              by_cases c : j = k
              · rw [c]; exact v
              · exact w j (by omega) x
            · intro w
              exact ⟨fun j hj x => w j (by omega) x, w k (by omega) tb⟩
          · have := y i hi
            rw [x, Bool.true_and, ecl_fr (ee i (by omega)) (ee k hk)] at this
            exact this
        · refine h m1 false g1 ⟨fun x => (by cases x), fun x => ?_⟩
          have : anyb (fun i => g.testBit i && ecl m1 (tk i) (tk k)) k = false := anyb_f.mpr (fun i hi => by
            cases c : g.testBit i
            · rfl
            · have y : ecl m (tk i) (tk k) = false := x.1 i k hi c tb
              rw [ecl_fr (ee i (by omega)) (ee k hk), y]
              rfl)
          rw [this] at y
          cases y
  · rintro m1 ⟨g1, g2, g3⟩
    have ar : Ar [106] m m1 := Ar.ag g1 (fun _ z => z)
    have hG1 : GT m1 n tk ts := hG.fr ar lt (by decide) (by decide)
    refine B_X3_canBeOne_9 m1 Q _ _ ⟨fun _ => S_isEmpty m1 _ 105 (s105 m1) (B_X3_canBeOne_77 m1 Q _ ?_), fun z => absurd (by rw [hG1.1]; exact (iI_le (by omega) (by omega) (by omega) (by omega)).mpr (Int.le_refl _)) z⟩
    have key : wm (m1.2.1 106) (m1.2.1 106) = true ↔ gON m tk ts g := by
      rw [wm_iff]
      constructor
      · rintro ⟨q, hq, w, _⟩
        exact ⟨fun i j hij x y => g3 i j hij (gb j y) x y, q, hq, fun j hj => (g2 q hq).mp w j (gb j hj) hj⟩
      · rintro ⟨_, q, hq, w⟩
        have := (g2 q hq).mpr (fun j _ hj => w j hj)
        exact ⟨q, hq, this, this⟩
    refine bz' (fun y => ?_) (fun y => ?_)
    · refine h m1 true g1 ⟨fun _ => key.mp ?_, fun _ => rfl⟩
      cases c : wm (m1.2.1 106) (m1.2.1 106)
      · rw [show (105 + 1 : Nat) = 106 from rfl, c] at y
        cases y
      · rfl
    · refine h m1 false g1 ⟨fun x => (by cases x), fun x => ?_⟩
      rw [show (105 + 1 : Nat) = 106 from rfl, key.mpr x] at y
      cases y
theorem sub_x {g p : Nat} (hg : 0 < g) (h0 : p ≠ 0) (h : p &&& lo g = p) : 0 < g ^^^ p ∧ g ^^^ p < g ∧ p < g := by
  have a := sub_le h
  have b := lo_lt hg
  obtain ⟨k, _, _, h3⟩ := lo_bits g hg
  have s : ∀ j, p.testBit j = true → g.testBit j = true := fun j hj => by
    have := sub_iff.mp h j hj
    rw [h3] at this
    exact (Bool.and_eq_true_iff.mp this).1
  have u : (g ^^^ p) &&& g = g ^^^ p := sub_iff.mpr (fun j hj => by
    rw [Nat.testBit_xor] at hj
    cases c : g.testBit j
    · cases d : p.testBit j
      · rw [c, d] at hj
        cases hj
      · have := s j d
        rw [c] at this
        cases this
    · rfl)
  have v := sub_le u
  have w : g ^^^ (g ^^^ p) = p := by rw [← Nat.xor_assoc, Nat.xor_self, Nat.zero_xor]
  refine ⟨?_, ?_, by omega⟩
  · rcases Nat.eq_zero_or_pos (g ^^^ p) with c | c
    · rw [c, Nat.xor_zero] at w
      omega
    · exact c
  · rcases Nat.lt_or_ge (g ^^^ p) g with c | c
    · exact c
    · have e : g ^^^ p = g := by omega
      rw [e, Nat.xor_self] at w
      omega
theorem S_fewParts (m : am_M) (Q : Option Value → am_M → Prop) (O : Nat → Prop) (F : Nat → Nat) (g : Nat) (hg : 0 < g) (hb : g < 1024) (hF : ∀ x, x < g → m.1 104 x = iI (F x : Int) ∧ F x ≤ 10) (hO : ∀ x, 0 < x → x < g → (F x = 1 ↔ O x))
    (h : ∀ v : Nat, v ≤ 10 → (∀ p, p ≠ 0 → p &&& lo g = p → O (g ^^^ p) → v ≤ F p + 1) → (v = 10 ∨ ∃ p, p ≠ 0 ∧ p &&& lo g = p ∧ O (g ^^^ p) ∧ v = F p + 1) → Q (some (.int (iI (v : Int)))) m) :
    am_WP YL 41 0 0 0 [some (.ref 102), some (.int (iI (g : Int))), none, none, none, none] [] m Q := by
  have loop : ∀ d part v : Nat, part ≤ d → part &&& lo g = part → v ≤ 10 → (∀ p, part < p → p &&& lo g = p → O (g ^^^ p) → v ≤ F p + 1) → (v = 10 ∨ ∃ p, p ≠ 0 ∧ p &&& lo g = p ∧ O (g ^^^ p) ∧ v = F p + 1) → am_WP YL 41 0 0 12 [some (.ref 102), some (.int (iI (g : Int))), some (.int (iI (lo g : Int))), some (.int (iI (v : Int))), some (.int (iI (part : Int))), none] [] m Q := by
    have lb := lo_lt hg
    intro d
    induction d with
    | zero =>
      intro part v h1 h2 h3 h4 h5
      have e : part = 0 := by omega
      subst e
      exact B_X3_fewParts_12 m Q _ _ _ _ ⟨fun _ => h v h3 (fun p hp => h4 p (by omega)) h5, fun z => absurd (show (iI ((0 : Nat) : Int)) ≤ 0 by decide) z⟩
    | succ d ih =>
      intro part v h1 h2 h3 h4 h5
      by_cases c : part = 0
      · subst c
        exact B_X3_fewParts_12 m Q _ _ _ _ ⟨fun _ => h v h3 (fun p hp => h4 p (by omega)) h5, fun z => absurd (show (iI ((0 : Nat) : Int)) ≤ 0 by decide) z⟩
      · obtain ⟨x1, x2, x3⟩ := sub_x hg c h2
        have en : (iI (part : Int) - (1 : Int32)) &&& iI (lo g : Int) = iI (((part - 1) &&& lo g : Nat) : Int) := by
          rw [show (1 : Int32) = iI 1 from rfl, iI_sub, show (part : Int) - 1 = ((part - 1 : Nat) : Int) by omega, iI_and (by omega) (by omega)]
        have nl : (part - 1) &&& lo g ≤ part - 1 := Nat.and_le_left
        have ns : ((part - 1) &&& lo g) &&& lo g = (part - 1) &&& lo g := by rw [Nat.and_assoc, Nat.and_self]
        have nx : ∀ w : Nat, w ≤ v → (O (g ^^^ part) → w ≤ F part + 1) → (w = 10 ∨ ∃ p, p ≠ 0 ∧ p &&& lo g = p ∧ O (g ^^^ p) ∧ w = F p + 1) → am_WP YL 41 0 0 12 [some (.ref 102), some (.int (iI (g : Int))), some (.int (iI (lo g : Int))), some (.int (iI (w : Int))), some (.int (iI (((part - 1) &&& lo g : Nat) : Int))), none] [] m Q := by
          intro w hw hp hx
          refine ih _ w (by omega) ns (by omega) (fun p hp1 hp2 hp3 => ?_) hx
          rcases Nat.lt_trichotomy p part with y | y | y
          · have := sub_step part (lo g) p h2 hp2 y
            omega
          · rw [y] at hp3 ⊢
            exact hp hp3
          · have := h4 p y hp2 hp3
            omega
        refine B_X3_fewParts_12 m Q _ _ _ _ ⟨fun z => absurd ((iI_le (b := 0) (by omega) (by omega) (by omega) (by omega)).mp z) (by omega), fun _ => ?_⟩
        rw [iI_xor (by omega) (by omega), en]
        refine ⟨fun z => absurd ((iI_le (a := 1024) (by omega) (by omega) (by omega) (by omega)).mp z) (by omega), fun _ => ⟨fun z => absurd ((iI_le (a := 1024) (by omega) (by omega) (by omega) (by omega)).mp z) (by omega), fun _ => ⟨(iI_in (by omega) (by omega)).mpr (by omega), ?_⟩⟩⟩
        rw [iI_cl (by omega) (by omega), Int.toNat_natCast, (hF _ x2).1, iI_cl (by omega) (by omega), Int.toNat_natCast, (hF _ x3).1]
        have b1 := (hF _ x2).2
        have b2 := (hF _ x3).2
        have e1 : (iI (F (g ^^^ part) : Int) = (1 : Int32)) ↔ O (g ^^^ part) := by
          rw [show (1 : Int32) = iI 1 from rfl, iI_eq (by omega) (by omega) (by omega) (by omega), ← hO _ x1 x2]
          omega
        rw [e1]
        refine ⟨fun z => nx v (Nat.le_refl _) (fun y => absurd y z) h5, fun z => ⟨(iI_in (by omega) (by omega)).mpr (by omega), ?_⟩⟩
        rw [iI_i1]
        by_cases y : F part + 1 < v
        · rw [if_pos ((iI_lt (by omega) (by omega) (by omega) (by omega)).mpr (by omega))]
          exact nx (F part + 1) (by omega) (fun _ => Nat.le_refl _) (Or.inr ⟨part, c, h2, z, rfl⟩)
        · rw [if_neg (fun w => y (by have := (iI_lt (by omega) (by omega) (by omega) (by omega)).mp w; omega))]
          exact nx v (Nat.le_refl _) (fun _ => by omega) h5
  refine B_X3_fewParts_0 m Q _ ?_
  have e : iI (g : Int) &&& (iI (g : Int) - (1 : Int32)) = iI (lo g : Int) := by
    rw [show (1 : Int32) = iI 1 from rfl, iI_sub, show (g : Int) - 1 = ((g - 1 : Nat) : Int) by omega, iI_and (by omega) (by omega)]
    rfl
  rw [e]
  exact loop (lo g) (lo g) 10 (Nat.le_refl _) (Nat.and_self _) (Nat.le_refl _) (fun p hp hs => by have := sub_le hs; omega) (Or.inl rfl)
theorem FL_ex' {O : Nat → Prop} {n : Nat} (hn : n ≤ 10) (hO : ∀ k, k < n → O (2 ^ k)) {g : Nat} (hg : 0 < g) (hb : g < 2 ^ n) (hN : ¬ O g) : lo g ≠ 0 ∧ O (g ^^^ lo g) := by
  obtain ⟨k, h1, h2, h3, h4⟩ := lo_x hg
  have hk : k < n := by
    by_cases c : k < n
    · exact c
    · rw [Nat.testBit_lt_two_pow (Nat.lt_of_lt_of_le hb (Nat.pow_le_pow_right (by decide) (by omega)))] at h1
      cases h1
  refine ⟨fun z => ?_, by rw [h2]; exact hO k hk⟩
  rw [z, Nat.zero_or] at h4
  rw [← h4] at hN
  exact hN (hO k hk)
theorem FL_le' {O : Nat → Prop} {F : Nat → Nat} {n : Nat} (hn : n ≤ 10) (hO : ∀ k, k < n → O (2 ^ k)) {g : Nat} (hg : 0 < g) (hb : g < 2 ^ n) (h : FL O F g) (ih : ∀ p, 0 < p → p < g → F p ≤ pcn p) : F g ≤ pcn g := by
  have hb2 : g < 1024 := Nat.lt_of_lt_of_le hb (Nat.pow_le_pow_right (n := 2) (j := 10) (by decide) hn)
  have e := pcn_lo hg hb2
  rcases h with ⟨_, b⟩ | ⟨a, b, _⟩
  · omega
  · have x := FL_ex' hn hO hg hb a
    have y := b (lo g) x.1 (Nat.and_self _) x.2
    have z := lo_lt hg
    have w := ih (lo g) (by have := x.1; omega) z
    omega
theorem gON_fr {A : List Nat} {m m1 : am_M} (h : Ar A m m1) (hA : ∀ a, a ∈ A → a < 133) {n : Nat} {tk ts : Nat → Nat} (hG : GT m n tk ts) {g : Nat} (hg : g < 2 ^ n) : gON m1 tk ts g ↔ gON m tk ts g := by
  refine ONE_cong (n := n) hg (fun i j hij hj => ?_) (fun j q hj hq => ?_)
  · have a := (hG.2.2 i (by omega)).2.1.2.1
    have b := (hG.2.2 j hj).2.1.2.1
    exact ecl_fr (h.I (fun z => by have := hA _ z; omega)) (h.I (fun z => by have := hA _ z; omega))
  · obtain ⟨_, b, c, _⟩ := hG.2.2 j hj
    have := b.2.2.2 _ c
    rw [h.J (fun z => by have := hA _ z; omega)]
theorem FL_fr {O : Nat → Prop} {F G : Nat → Nat} {g : Nat} (hg : 0 < g) (h : ∀ x, x ≤ g → F x = G x) (a : FL O F g) : FL O G g := by
  rcases a with ⟨a, b⟩ | ⟨a, b, p, p1, p2, p3, p4⟩
  · exact Or.inl ⟨a, by rw [← h g (Nat.le_refl _)]; exact b⟩
  · refine Or.inr ⟨a, fun q q1 q2 q3 => ?_, p, p1, p2, p3, ?_⟩
    · have := (sub_x hg q1 q2).2.2
      rw [← h g (Nat.le_refl _), ← h q (by omega)]
      exact b q q1 q2 q3
    · have := (sub_x hg p1 p2).2.2
      rw [← h g (Nat.le_refl _), ← h p (by omega)]
      exact p4
theorem p2_10 {n : Nat} (h : n ≤ 10) : 2 ^ n ≤ 1024 := Nat.pow_le_pow_right (n := 2) (j := 10) (by decide) h
theorem S_least (m : am_M) (Q : Option Value → am_M → Prop) (n : Nat) (tk ts : Nat → Nat) (hG : GT m n tk ts) (h : ∀ m1 F, Ag [104, 106] m m1 → F 0 = 0 → (∀ g, 0 < g → g < 2 ^ n → FL (gON m tk ts) F g ∧ F g ≤ 10) → Q (some (.int (iI (F (2 ^ n - 1) : Int)))) m1) : am_WP YL 40 0 0 0 [some (.ref 102), none, none] [] m Q := by
  have hn := hG.2.1
  have hN := p2_10 hn
  have hN1 : 1 ≤ 2 ^ n := Nat.one_le_two_pow
  have lt : ∀ a, a ∈ [104, 106] → a < 133 := by decide
  have hO1 : ∀ k, k < n → gON m tk ts (2 ^ k) := fun k hk => ONE_single (hG.2.2 k hk).2.2.2
  refine B_X3_least_0 m Q ?_
  rw [hG.1, iI_sh1 (by omega), if_neg (fun z => by have := (iI_lt (a := 1024) (by omega) (by omega) (by omega) (by omega)).mp z; omega), show (0 : Int32).toNatClampNeg = 0 from rfl]
  have := lp (N := 2 ^ n - 1) (W := fun k m1 => am_WP YL 40 0 0 22 [some (.ref 102), some (.int (iI ((2 ^ n : Nat) : Int))), some (.int (iI ((k : Int) + 1)))] [] m1 Q) (fun k m1 => Ag [104, 106] m m1 ∧ ∃ F, F 0 = 0 ∧ (∀ x, x ≤ k → m1.1 104 x = iI (F x : Int)) ∧ ∀ g, 0 < g → g ≤ k → FL (gON m tk ts) F g ∧ F g ≤ pcn g) (s := am_pI m 104 0 0) ⟨(Ag.rf _ _).pI (by decide) _ _, fun _ => 0, rfl, fun x hx => ?_, fun g h1 h2 => by omega⟩ ?_ ?_
  · exact this
  · rw [am_pI_at, if_pos (by omega)]
    rfl
  · rintro k m1 hk ⟨g1, F, F0, F1, F2⟩ ih
    have b10 : ∀ x, x < k + 1 → F x ≤ 10 := fun x hx => by
      rcases Nat.eq_zero_or_pos x with c | c
      · rw [c, F0]; exact Nat.zero_le _
      · have := (F2 x c (by omega)).2
        have := pcn_10 (g := x) (by omega)
        omega
    have nx : ∀ m2 v, Ag [104, 106] m m2 → (∀ x, x < k + 1 → m2.1 104 x = m1.1 104 x) → FL (gON m tk ts) (fun x => if x = k + 1 then v else F x) (k + 1) → m2.1 104 (k + 1) = iI (v : Int) → am_WP YL 40 0 0 22 [some (.ref 102), some (.int (iI ((2 ^ n : Nat) : Int))), some (.int (iI ((k : Int) + 1 + 1)))] [] m2 Q := by
      intro m2 v f2 a1 a2 a3
      refine ih m2 ⟨f2, fun x => if x = k + 1 then v else F x, by dsimp only; rw [if_neg (by omega)]; exact F0, fun x hx => ?_, fun g h1 h2 => ?_⟩
      · dsimp only
        by_cases c : x = k + 1
        · rw [if_pos c, c]; exact a3
        · rw [if_neg c, a1 x (by omega)]; exact F1 x (by omega)
      · by_cases c : g = k + 1
        · subst c
          refine ⟨a2, FL_le' hn hO1 (by omega) (by omega) a2 (fun p p1 p2 => ?_)⟩
          rw [if_neg (by omega)]
          exact (F2 p p1 (by omega)).2
        · obtain ⟨x, y⟩ := F2 g h1 (by omega)
          refine ⟨FL_fr h1 (fun x hx => (if_neg (by omega)).symm) x, ?_⟩
          dsimp only
          rw [if_neg c]
          exact y
    have ar : Ar [104, 106] m m1 := Ar.ag g1 (fun _ z => z)
    have ek : (k : Int) + 1 = ((k + 1 : Nat) : Int) := by omega
    refine B_X3_least_22 m1 Q _ _ ⟨fun z => absurd ((iI_le (by omega) (by omega) (by omega) (by omega)).mp z) (by omega), fun _ => ?_⟩
    rw [ek]
    refine S_canBeOne m1 _ n tk ts (hG.fr ar lt (by decide) (by decide)) (k + 1) (by omega) (fun m2 b f2 hb => ?_)
    have hON : gON m1 tk ts (k + 1) ↔ gON m tk ts (k + 1) := gON_fr ar lt hG (by omega)
    have g2 : Ag [104, 106] m m2 := g1.tr (f2.sub (by decide))
    refine B_X3_least_37 m2 Q _ _ 104 1024 rfl (by decide) _ _ (bz (fun y => ?_) (fun y => ?_))
    · have nO : ¬ gON m tk ts (k + 1) := fun z => by
        rw [hb.mpr (hON.mpr z)] at y
        cases y
      have e104 : m2.1 104 = m1.1 104 := f2.I (by decide)
      refine S_fewParts m2 _ (gON m tk ts) F (k + 1) (by omega) (by omega) (fun x hx => ⟨by rw [e104]; exact F1 x (by omega), b10 x hx⟩) (fun x x1 x2 => FL_one (F2 x x1 (by omega)).1 (fun p p1 p2 => FL_pos (F2 p p1 (by omega)).1) x1) (fun v v1 v2 v3 => ?_)
      refine B_X3_least_49 m2 Q _ _ 104 1024 rfl (by decide) _ _ ⟨(iI_in (by omega) (by omega)).mpr (by omega), ?_⟩
      rw [iI_i1, iI_cl (by omega) (by omega), Int.toNat_natCast]
      refine nx _ v (g2.pI (by decide) _ _) (fun x hx => ?_) ?_ ?_
      · rw [am_pI_at, if_neg (by omega), e104]
      · have x := FL_ex' hn hO1 (show 0 < k + 1 by omega) (by omega) nO
        have z := lo_lt (show 0 < k + 1 by omega)
        refine Or.inr ⟨nO, fun p p1 p2 p3 => ?_, ?_⟩
        · dsimp only
          rw [if_pos rfl, if_neg (by have := (sub_x (show 0 < k + 1 by omega) p1 p2).2.2; omega)]
          exact v2 p p1 p2 p3
        · dsimp only
          rw [if_pos rfl]
          rcases v3 with w | ⟨p, p1, p2, p3, p4⟩
          · refine ⟨lo (k + 1), x.1, Nat.and_self _, x.2, ?_⟩
            rw [if_neg (by omega)]
            have a := v2 (lo (k + 1)) x.1 (Nat.and_self _) x.2
            have b := (F2 (lo (k + 1)) (by have := x.1; omega) (by omega)).2
            have c := pcn_lo (show 0 < k + 1 by omega) (by omega)
            have d := pcn_10 (g := k + 1) (by omega)
            omega
          · refine ⟨p, p1, p2, p3, ?_⟩
            rw [if_neg (by have := (sub_x (show 0 < k + 1 by omega) p1 p2).2.2; omega)]
            exact p4
      · rw [am_pI_at, if_pos rfl]
    · refine ⟨(iI_in (by omega) (by omega)).mpr (by omega), ?_⟩
      rw [iI_i1, iI_cl (by omega) (by omega), Int.toNat_natCast]
      refine nx _ 1 (g2.pI (by decide) _ _) (fun x hx => ?_) ?_ ?_
      · rw [am_pI_at, if_neg (by omega), f2.I (by decide)]
      · exact Or.inl ⟨hON.mp (hb.mp y), if_pos rfl⟩
      · rw [am_pI_at, if_pos rfl]
        rfl
  · rintro m1 ⟨g1, F, F0, F1, F2⟩
    refine B_X3_least_22 m1 Q _ _ ⟨fun _ => ?_, fun z => absurd ((iI_le (by omega) (by omega) (by omega) (by omega)).mpr (by omega)) z⟩
    have e : (iI ((2 ^ n : Nat) : Int) - (1 : Int32)) &&& (1023 : Int32) = iI ((2 ^ n - 1 : Nat) : Int) := by
      rw [show (1 : Int32) = iI 1 from rfl, iI_sub, show (1023 : Int32) = iI 1023 from rfl, iI_m1023 (by omega) (by omega)]
      congr 1
      omega
    rw [e]
    refine ⟨(iI_in (by omega) (by omega)).mpr (by omega), ?_⟩
    rw [iI_cl (by omega) (by omega), Int.toNat_natCast, F1 _ (Nat.le_refl _)]
    refine h m1 F g1 F0 (fun g h1 h2 => ?_)
    obtain ⟨x, y⟩ := F2 g h1 (by omega)
    have := pcn_10 (g := g) (by omega)
    exact ⟨x, by omega⟩
theorem S_start (m : am_M) (Q : Option Value → am_M → Prop) (h : ∀ m1, Ar [102] m m1 → GT m1 0 (fun _ => 0) (fun _ => 0) → Q none m1) : am_WP YL 38 0 0 0 [some (.ref 102)] [] m Q := by
  refine B_X3_start_0 m Q (h _ ((Ar.rf _ _).pI (by decide) _ _) ⟨?_, by decide, fun j hj => absurd hj (Nat.not_lt_zero j)⟩)
  rw [am_pI_at, if_pos rfl]
  rfl
theorem gR103 (m : am_M) (j : Nat) : am_gR YL m 103 j = m.2.2.1 103 j := rfl
theorem S_gtake (m : am_M) (Q : Option Value → am_M → Prop) (n : Nat) (tk ts : Nat → Nat) (hG : GT m n tk ts) (e s : Nat) (he : EnOK m e) (hs : am_gR YL m e 4 = some s) (h0 : (n = 10 ∨ ∀ q, q < 256 → wb (m.2.1 (s + 1)) q = false) → Q (some (.int 0)) m)
    (h1 : n < 10 → (∃ q, q < 256 ∧ wb (m.2.1 (s + 1)) q = true) → ∀ m1, Ar [102, 103] m m1 → GT m1 (n + 1) (fun j => if j = n then e else tk j) (fun j => if j = n then s else ts j) → Q (some (.int 1)) m1) :
    am_WP YL 39 0 0 0 [some (.ref 102), some (.ref e)] [] m Q := by
  have hn := hG.2.1
  have sb := he.2.2.2 s hs
  refine B_X3_take_0 m Q e he.1 ⟨fun z => ?_, fun _ => ⟨fun z => ?_, fun z => ?_⟩⟩
  · rw [hG.1] at z
    exact absurd ((iI_lt (b := 0) (by omega) (by omega) (by omega) (by omega)).mp z) (by omega)
  · rw [hG.1] at z
    have := (iI_le (a := 10) (by omega) (by omega) (by omega) (by omega)).mp z
    exact h0 (Or.inl (by omega))
  · rw [hG.1] at z
    have hn2 : n < 10 := by
      by_cases c : n < 10
      · exact c
      · exact absurd ((iI_le (a := 10) (by omega) (by omega) (by omega) (by omega)).mpr (by omega)) z
    rw [hs]
    refine B_X3_take_20r m Q e he.1 s sb.1 ?_
    rw [hs]
    refine B_X3_take_27r m Q e he.1 s sb.1 (S_isEmpty m _ s sb.1 (B_X3_take_30 m Q e he.1 _ (bz (fun y => ?_) (fun y => ?_))))
    · have y : wm (m.2.1 (s + 1)) (m.2.1 (s + 1)) = true := by
        cases c : wm (m.2.1 (s + 1)) (m.2.1 (s + 1))
        · rw [c] at y; cases y
        · rfl
      obtain ⟨q, hq, w, _⟩ := (wm_iff _ _).mp y
      rw [hG.1]
      refine ⟨(iI_in (by omega) (by omega)).mpr (by omega), ?_⟩
      rw [iI_cl (by omega) (by omega), Int.toNat_natCast]
      have e1 : (am_pR m 103 n (some e)).1 102 3 = iI (n : Int) := hG.1
      rw [e1, show (1 : Int32) = iI 1 from rfl, iI_add]
      have fr : Ar [102, 103] m (am_pI (am_pR m 103 n (some e)) 102 3 (iI ((n : Int) + 1))) := ((Ar.rf _ m).pR (by decide) _ _).pI (by decide) _ _
      have lt : ∀ a, a ∈ [102, 103] → a < 133 := by decide
      refine h1 hn2 ⟨q, hq, w⟩ _ fr ⟨?_, by omega, fun j hj => ?_⟩
      · rw [am_pI_at, if_pos rfl]
        rfl
      · have g103 : am_gR YL (am_pI (am_pR m 103 n (some e)) 102 3 (iI ((n : Int) + 1))) 103 j = if j = n then some e else am_gR YL m 103 j := by
          rw [gR103, gR103]
          exact am_pR_at m 103 n j (some e)
        dsimp only
        by_cases c : j = n
        · rw [if_pos c, if_pos c, g103, if_pos c]
          refine ⟨rfl, he.fr fr lt, by rw [fr.R (fun z => by have := lt _ z; have := he.2.1; omega)]; exact hs, q, hq, ?_⟩
          rw [fr.J (fun z => by have := lt _ z; omega)]
          exact w
        · obtain ⟨a, b, c1, q', hq', d⟩ := hG.2.2 j (by omega)
          have b2 := b.2.2.2 _ c1
          rw [if_neg c, if_neg c, g103, if_neg c]
          refine ⟨a, b.fr fr lt, by rw [fr.R (fun z => by have := lt _ z; have := b.2.1; omega)]; exact c1, q', hq', ?_⟩
          rw [fr.J (fun z => by have := lt _ z; omega)]
          exact d
    · refine h0 (Or.inr (fun q hq => ?_))
      cases c : wb (m.2.1 (s + 1)) q
      · rfl
      · rw [(wm_iff _ _).mpr ⟨q, hq, c, c⟩] at y
        cases y
