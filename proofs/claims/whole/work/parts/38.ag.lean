/-! ===== what stays as it was ===== -/
def Ag (A : List Nat) (m m' : am_M) : Prop := (∀ a, a ∉ A → m'.1 a = m.1 a ∧ m'.2.1 a = m.2.1 a) ∧ m'.2.2 = m.2.2
theorem Ag.rf (A : List Nat) (m : am_M) : Ag A m m := ⟨fun _ _ => ⟨rfl, rfl⟩, rfl⟩
theorem Ag.tr {A : List Nat} {m m1 m2 : am_M} (h1 : Ag A m m1) (h2 : Ag A m1 m2) : Ag A m m2 := ⟨fun a ha => ⟨((h2.1 a ha).1).trans (h1.1 a ha).1, ((h2.1 a ha).2).trans (h1.1 a ha).2⟩, h2.2.trans h1.2⟩
theorem Ag.sub {A B : List Nat} {m m1 : am_M} (h : Ag A m m1) (hs : ∀ a, a ∈ A → a ∈ B) : Ag B m m1 := ⟨fun a ha => h.1 a (fun z => ha (hs a z)), h.2⟩
theorem Ag.wI {A : List Nat} {m m1 : am_M} (h : Ag A m m1) {a : Nat} (ha : a ∈ A) (f : Nat → Int32) : Ag A m (am_wI m1 a f) := ⟨fun b hb => ⟨(am_wI_ne (b := b) (a := a) (fun e => hb (by rw [e]; exact ha))).trans (h.1 b hb).1, (h.1 b hb).2⟩, h.2⟩
theorem Ag.wJ {A : List Nat} {m m1 : am_M} (h : Ag A m m1) {a : Nat} (ha : a ∈ A) (f : Nat → Int64) : Ag A m (am_wJ m1 a f) := ⟨fun b hb => ⟨(h.1 b hb).1, (am_wJ_ne (b := b) (a := a) (fun e => hb (by rw [e]; exact ha))).trans (h.1 b hb).2⟩, h.2⟩
theorem Ag.pI {A : List Nat} {m m1 : am_M} (h : Ag A m m1) {a : Nat} (ha : a ∈ A) (j : Nat) (v : Int32) : Ag A m (am_pI m1 a j v) := by
  rw [am_pI_w]
  exact h.wI ha _
theorem Ag.pJ {A : List Nat} {m m1 : am_M} (h : Ag A m m1) {a : Nat} (ha : a ∈ A) (j : Nat) (v : Int64) : Ag A m (am_pJ m1 a j v) := by
  rw [am_pJ_w]
  exact h.wJ ha _
theorem Ag.I {A : List Nat} {m m1 : am_M} (h : Ag A m m1) {a : Nat} (ha : a ∉ A) : m1.1 a = m.1 a := (h.1 a ha).1
theorem Ag.J {A : List Nat} {m m1 : am_M} (h : Ag A m m1) {a : Nat} (ha : a ∉ A) : m1.2.1 a = m.2.1 a := (h.1 a ha).2
theorem Ag.k {A : List Nat} {m m1 : am_M} (h : Ag A m m1) (a : Nat) : am_k YL m1 a = am_k YL m a := by
  unfold am_k
  rw [h.2]
theorem Ag.R {A : List Nat} {m m1 : am_M} (h : Ag A m m1) (a j : Nat) : am_gR YL m1 a j = am_gR YL m a j := by
  unfold am_gR
  rw [h.2]
theorem Ag.sq {A : List Nat} {m m1 : am_M} (h : Ag A m m1) {a : Nat} (hs : sw_sq m a) : sw_sq m1 a := by
  unfold sw_sq at *
  rw [h.k, h.k, h.R]
  exact hs
theorem Ag.en {A : List Nat} {m m1 : am_M} (h : Ag A m m1) {a : Nat} (hs : sw_en m a) : sw_en m1 a := by
  unfold sw_en at *
  rw [h.k]
  exact hs
theorem am_pI_at (m : am_M) (a j y : Nat) (v : Int32) : (am_pI m a j v).1 a y = if y = j then v else m.1 a y := am_u_at
theorem am_pJ_at (m : am_M) (a j y : Nat) (v : Int64) : (am_pJ m a j v).2.1 a y = if y = j then v else m.2.1 a y := am_u_at
theorem am_pI_ne {m : am_M} {a j b : Nat} {v : Int32} (h : b ≠ a) : (am_pI m a j v).1 b = m.1 b := am_u_ne h
theorem am_pJ_ne {m : am_M} {a j b : Nat} {v : Int64} (h : b ≠ a) : (am_pJ m a j v).2.1 b = m.2.1 b := am_u_ne h
theorem am_pI_J (m : am_M) (a j : Nat) (v : Int32) : (am_pI m a j v).2.1 = m.2.1 := rfl
theorem am_pJ_I (m : am_M) (a j : Nat) (v : Int64) : (am_pJ m a j v).1 = m.1 := rfl
theorem am_wI_J (m : am_M) (a : Nat) (f : Nat → Int32) : (am_wI m a f).2.1 = m.2.1 := rfl
theorem am_wJ_I (m : am_M) (a : Nat) (f : Nat → Int64) : (am_wJ m a f).1 = m.1 := rfl
theorem iI_s (k : Nat) : iI (k : Int) + 1 = iI ((k + 1 : Nat) : Int) := iI_add (k : Int) 1
/-! ===== a row laid; the squares in a direction ===== -/
theorem S_layRow (m : am_M) (Q : Option Value → am_M → Prop) (r n : Nat) (hr : r < 16) (hn : n ≤ 16) (x y : Int32)
    (h : ∀ m1, Ag [5, 6, 8] m m1 → (∀ q, q < 256 → m1.1 5 q = if q / 16 = r ∧ q % 16 < n then x else m.1 5 q) → (∀ q, q < 256 → m1.1 6 q = if q / 16 = r ∧ q % 16 < n then y else m.1 6 q) → (∀ q, q < 256 → wb (m1.2.1 8) q = if q / 16 = r then decide (q % 16 < n) else wb (m.2.1 8) q) → Q none m1) :
    am_WP YL 102 0 0 0 [some (.ref 4), some (.int (iI (r : Int))), some (.int (iI (n : Int))), some (.int x), some (.int y), none, none] [] m Q := by
  refine B_X9_layRow_0 m Q _ _ _ _ ?_
  have := lp (N := 16) (W := fun k m1 => am_WP YL 102 0 0 3 [some (.ref 4), some (.int (iI (r : Int))), some (.int (iI (n : Int))), some (.int x), some (.int y), some (.int (iI (k : Int))), none] [] m1 Q)
    (fun k m1 => Ag [5, 6, 8] m m1 ∧ (∀ q, q < 256 → m1.1 5 q = if q / 16 = r ∧ q % 16 < n ∧ q % 16 < k then x else m.1 5 q) ∧ (∀ q, q < 256 → m1.1 6 q = if q / 16 = r ∧ q % 16 < n ∧ q % 16 < k then y else m.1 6 q) ∧ (∀ q, q < 256 → wb (m1.2.1 8) q = if q / 16 = r ∧ q % 16 < k then decide (q % 16 < n) else wb (m.2.1 8) q)) (s := m)
    ⟨Ag.rf _ _, fun q _ => (if_neg (by omega)).symm, fun q _ => (if_neg (by omega)).symm, fun q _ => (if_neg (by omega)).symm⟩ ?_ ?_
  · exact this
  · rintro k m1 hk ⟨a1, a2, a3, a4⟩ ih
    refine B_X9_layRow_3 m1 Q _ _ _ _ _ ?_
    simp (disch := omega) only [iI_lit, iI_ofNat, iI_neg, iI_add, iI_sub, iI_mul, iI_lt, iI_le, iI_eq, iI_in, iI_cl]
    have e : 16 * (r : Int) + (k : Int) = ((16 * r + k : Nat) : Int) := by omega
    rw [e]
    refine ⟨fun z => by omega, fun _ => ⟨fun z => ?_, fun z => ?_⟩⟩
    · refine S_drop m1 _ 7 (sq_7 m1) (16 * r + k) (by omega) (fun f hf => ?_)
      refine B_X9_layRow_55 _ Q _ _ _ _ _ ?_
      rw [iI_s]
      refine ih _ ⟨a1.wJ (a := 8) (by decide) f, ?_, ?_, ?_⟩
      · intro q hq
        rw [am_wJ_I, a2 q hq]
        by_cases c : q / 16 = r ∧ q % 16 < n ∧ q % 16 < k
        · rw [if_pos c, if_pos (by omega)]
        · rw [if_neg c, if_neg (by omega)]
      · intro q hq
        rw [am_wJ_I, a3 q hq]
        by_cases c : q / 16 = r ∧ q % 16 < n ∧ q % 16 < k
        · rw [if_pos c, if_pos (by omega)]
        · rw [if_neg c, if_neg (by omega)]
      · intro q hq
        rw [am_wJ_at, hf q hq]
        show (wb (m1.2.1 8) q && _) = _
        rw [a4 q hq]
        by_cases c : q = 16 * r + k
        · rw [if_neg (by omega), if_pos (by omega), decide_eq_true c, decide_eq_false (by omega), Bool.not_true, Bool.and_false]
        · rw [decide_eq_false c, Bool.not_false, Bool.and_true]
          by_cases c2 : q / 16 = r ∧ q % 16 < k
          · rw [if_pos c2, if_pos (by omega)]
          · rw [if_neg c2, if_neg (by omega)]
    · refine S_put m1 _ 7 (sq_7 m1) (16 * r + k) (by omega) (fun f hf => ?_)
      refine B_X9_layRow_34 _ Q _ _ _ _ _ _ (S_shape _ _ (16 * r + k) (by omega) x y ?_)
      refine B_X9_layRow_43 _ Q _ _ _ _ _ ?_
      rw [iI_s]
      refine ih _ ⟨((a1.wJ (a := 8) (by decide) f).pI (a := 5) (by decide) _ _).pI (a := 6) (by decide) _ _, ?_, ?_, ?_⟩
      · intro q hq
        rw [am_pI_ne (by decide), am_pI_at, am_wJ_I, a2 q hq]
        by_cases c : q = 16 * r + k
        · rw [if_pos c, if_pos (by omega)]
        · rw [if_neg c]
          by_cases c2 : q / 16 = r ∧ q % 16 < n ∧ q % 16 < k
          · rw [if_pos c2, if_pos (by omega)]
          · rw [if_neg c2, if_neg (by omega)]
      · intro q hq
        rw [am_pI_at, am_pI_ne (by decide), am_wJ_I, a3 q hq]
        by_cases c : q = 16 * r + k
        · rw [if_pos c, if_pos (by omega)]
        · rw [if_neg c]
          by_cases c2 : q / 16 = r ∧ q % 16 < n ∧ q % 16 < k
          · rw [if_pos c2, if_pos (by omega)]
          · rw [if_neg c2, if_neg (by omega)]
      · intro q hq
        rw [am_pI_J, am_pI_J, am_wJ_at, hf q hq]
        show (wb (m1.2.1 8) q || _) = _
        rw [a4 q hq]
        by_cases c : q = 16 * r + k
        · rw [if_neg (by omega), if_pos (by omega), decide_eq_true c, decide_eq_true (show q % 16 < n by omega), Bool.or_true]
        · rw [decide_eq_false c, Bool.or_false]
          by_cases c2 : q / 16 = r ∧ q % 16 < k
          · rw [if_pos c2, if_pos (by omega)]
          · rw [if_neg c2, if_neg (by omega)]
  · rintro m1 ⟨a1, a2, a3, a4⟩
    refine B_X9_layRow_3 m1 Q _ _ _ _ _ ?_
    simp (disch := omega) only [iI_lit, iI_ofNat, iI_neg, iI_add, iI_sub, iI_mul, iI_lt, iI_le, iI_eq, iI_in, iI_cl]
    refine ⟨fun _ => h m1 a1 ?_ ?_ ?_, fun z => by omega⟩
    · intro q hq
      rw [a2 q hq]
      by_cases c : q / 16 = r ∧ q % 16 < n
      · rw [if_pos c, if_pos (by omega)]
      · rw [if_neg c, if_neg (by omega)]
    · intro q hq
      rw [a3 q hq]
      by_cases c : q / 16 = r ∧ q % 16 < n
      · rw [if_pos c, if_pos (by omega)]
      · rw [if_neg c, if_neg (by omega)]
    · intro q hq
      rw [a4 q hq]
      by_cases c : q / 16 = r
      · rw [if_pos c, if_pos (by omega)]
      · rw [if_neg c, if_neg (by omega)]
def fcone (m : am_M) (f : Nat) (dn rt sd rc : Int) (q : Nat) : Bool := (decide (rc = -1) || decide (((q : Int) / 16 - (f : Int) / 16) * ((q : Int) / 16 - (f : Int) / 16) + ((q : Int) % 16 - (f : Int) % 16) * ((q : Int) % 16 - (f : Int) % 16) ≤ rc * rc)) && (wb (m.2.1 8) q && icone f q dn rt sd)
theorem S_fillCone (m : am_M) (Q : Option Value → am_M → Prop) (a : Nat) (ha : sw_sq m a) (ha7 : a ≠ 7) (f : Nat) (hf : f < 256) (dn rt sd rc : Int) (h1 : dn.natAbs ≤ 50) (h2 : rt.natAbs ≤ 50) (h3 : sd.natAbs ≤ 400) (h4 : rc.natAbs ≤ 40)
    (h : ∀ m1, Ag [a + 1] m m1 → (∀ q, q < 256 → wb (m1.2.1 (a + 1)) q = fcone m f dn rt sd rc q) → Q none m1) :
    am_WP YL 110 0 0 0 [some (.ref 4), some (.ref a), some (.int (iI (f : Int))), some (.int (iI dn)), some (.int (iI rt)), some (.int (iI sd)), some (.int (iI rc)), none, none, none, none] [] m Q := by
  refine B_X9_fillCone_0 m Q a ha _ _ _ _ _ (S_empty m _ a ha ?_)
  refine B_X9_fillCone_4 _ Q a (by exact ha) _ _ _ _ _ ?_
  have := lp (N := 256) (W := fun k m1 => am_WP YL 110 0 0 7 [some (.ref 4), some (.ref a), some (.int (iI (f : Int))), some (.int (iI dn)), some (.int (iI rt)), some (.int (iI sd)), some (.int (iI rc)), some (.int (iI (k : Int))), none, none, none] [] m1 Q)
    (fun k m1 => Ag [a + 1] m m1 ∧ ∀ q, q < 256 → wb (m1.2.1 (a + 1)) q = (decide (q < k) && fcone m f dn rt sd rc q)) (s := am_wJ m (a + 1) (am_fx 4 (fun _ => 0) (m.2.1 (a + 1)))) ⟨(Ag.rf _ _).wJ (List.mem_singleton.mpr rfl) _, ?_⟩ ?_ ?_
  · exact this
  · intro q hq
    rw [am_wJ_at, wb_fx hq, wb_zero, decide_eq_false (Nat.not_lt_zero q), Bool.false_and]
  · rintro k m1 hk ⟨a1, a2⟩ ih
    have v1 : ((k : Int) / 16 - (f : Int) / 16).natAbs ≤ 15 := by omega
    have w1 : ((k : Int) % 16 - (f : Int) % 16).natAbs ≤ 15 := by omega
    have b1 := pbd v1 v1
    have b2 := pbd w1 w1
    have b3 := pbd h4 h4
    have e8 : m1.2.1 8 = m.2.1 8 := a1.J (fun z => ha7 (by have := List.mem_singleton.mp z; omega))
    have hs : sw_sq m1 a := a1.sq ha
    have skip : fcone m f dn rt sd rc k = false → am_WP YL 110 0 0 7 [some (.ref 4), some (.ref a), some (.int (iI (f : Int))), some (.int (iI dn)), some (.int (iI rt)), some (.int (iI sd)), some (.int (iI rc)), some (.int (iI ((k + 1 : Nat) : Int))), none, none, none] [] m1 Q := by
      intro z
      refine ih m1 ⟨a1, fun q hq => ?_⟩
      rw [a2 q hq]
      by_cases c : q = k
      · rw [c, z, Bool.and_false, Bool.and_false]
      · rw [show decide (q < k + 1) = decide (q < k) from decide_eq_decide.mpr (by omega)]
    have near : (rc = -1 ∨ ((k : Int) / 16 - (f : Int) / 16) * ((k : Int) / 16 - (f : Int) / 16) + ((k : Int) % 16 - (f : Int) % 16) * ((k : Int) % 16 - (f : Int) % 16) ≤ rc * rc) → am_WP YL 70 0 0 0 [some (.ref 7), some (.int (iI (k : Int)))] [] m1 (fun r1 m1 => am_WP YL 110 0 0 83 [some (.ref 4), some (.ref a), some (.int (iI (f : Int))), some (.int (iI dn)), some (.int (iI rt)), some (.int (iI sd)), some (.int (iI rc)), some (.int (iI (k : Int))), none, none, none] (am_pu r1 []) m1 Q) := by
      intro z
      refine S_has m1 _ 7 (sq_7 m1) k hk ?_
      refine B_X9_fillCone_83 m1 Q a hs _ _ _ _ _ _ _ ?_
      simp only [bI_0, iI_s]
      have ez : fcone m f dn rt sd rc k = (wb (m1.2.1 8) k && icone f k dn rt sd) := by
        unfold fcone
        rw [e8]
        rcases z with z | z
        · rw [decide_eq_true z, Bool.true_or, Bool.true_and]
        · rw [decide_eq_true z, Bool.or_true, Bool.true_and]
      refine ⟨fun y => skip (by rw [ez]; show (wb (m1.2.1 (7 + 1)) k && _) = false; rw [y, Bool.false_and]), fun y => S_isInCone m1 _ f k hf hk dn rt sd h1 h2 h3 ?_⟩
      have y : wb (m1.2.1 8) k = true := by cases hz : wb (m1.2.1 8) k; exact absurd hz y; rfl
      rw [y, Bool.true_and] at ez
      refine B_X9_fillCone_97 m1 Q a hs _ _ _ _ _ _ _ ?_
      simp only [bI_0, iI_s]
      refine ⟨fun x => skip (by rw [ez, x]), fun x => S_put m1 _ a hs k hk (fun g hg => ?_)⟩
      have x : icone f k dn rt sd = true := by cases hz : icone f k dn rt sd; exact absurd hz x; rfl
      refine B_X9_fillCone_106 _ Q a (by exact hs) _ _ _ _ _ _ ?_
      rw [iI_s]
      refine ih _ ⟨a1.wJ (List.mem_singleton.mpr rfl) _, fun q hq => ?_⟩
      rw [am_wJ_at, hg q hq, a2 q hq]
      by_cases c : q = k
      · rw [c, ez, x, decide_eq_true rfl, Bool.or_true, decide_eq_true (Nat.lt_succ_self k)]
        rfl
      · rw [show decide (q < k + 1) = decide (q < k) from decide_eq_decide.mpr (by omega), decide_eq_false c, Bool.or_false]
    refine B_X9_fillCone_7 m1 Q a hs _ _ _ _ _ _ ?_
    simp (disch := omega) only [iI_lit, iI_neg, iI_sub, iI_mul, iI_lt, iI_le, iI_eq, iI_s4, iI_m15]
    simp (disch := omega) only [iI_add, iI_lt]
    refine ⟨fun z => by omega, fun _ => ⟨fun z => ⟨fun y => by omega, fun _ => near (Or.inl z)⟩, fun z => ⟨fun y => ⟨fun _ => skip ?_, fun x => (by first | omega | exact absurd trivial x | exact absurd rfl x)⟩, fun y => ⟨fun x => by omega, fun _ => near (Or.inr (by omega))⟩⟩⟩⟩
    unfold fcone
    rw [decide_eq_false z, decide_eq_false (by omega), Bool.false_or, Bool.false_and]
  · rintro m1 ⟨a1, a2⟩
    have hs : sw_sq m1 a := a1.sq ha
    refine B_X9_fillCone_7 m1 Q a hs _ _ _ _ _ _ ?_
    refine ⟨fun _ => h m1 a1 (fun q hq => ?_), fun z => absurd (show (256 : Int32) ≤ iI ((256 : Nat) : Int) by decide) z⟩
    rw [a2 q hq, decide_eq_true hq, Bool.true_and]
