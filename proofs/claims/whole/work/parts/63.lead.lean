/-! ===== Ways.leadTo ===== -/
theorem QI_pop {m : am_M} {hd qn a : Nat} (hb : hd + qn ≤ 99999) (h : QI m hd (qn + 1)) (ha : a < 256) (he : m.1 89 (hd % 256) = iI (a : Int)) : wt m a = true ∧ QI (am_pI (am_pI m 87 4 (iI (qn : Int))) 90 a 0) (hd + 1) qn ∧ ∀ j, j < qn → m.1 89 ((hd + 1 + j) % 256) ≠ iI (a : Int) := by
  obtain ⟨q1, q2, q3, q4, q5, q6⟩ := h
  have wa : wt m a = true := by
    obtain ⟨b, h1, h2, h3⟩ := q4 0 (Nat.succ_pos qn)
    rw [Nat.add_zero, he] at h2
    rw [iI_inj (by omega) (by omega) h2]
    exact h3
  have ne : ∀ j, j < qn → m.1 89 ((hd + 1 + j) % 256) ≠ iI (a : Int) := by
    intro j hj e
    have := q6 0 (j + 1) (Nat.succ_pos j) (by omega)
    rw [Nat.add_zero, he, show hd + (j + 1) = hd + 1 + j by omega, e] at this
    exact this rfl
  refine ⟨wa, ?_, ne⟩
  have g90 : ∀ b, (am_pI (am_pI m 87 4 (iI (qn : Int))) 90 a 0).1 90 b = if b = a then 0 else m.1 90 b := by
    intro b
    rw [am_pI_at, am_pI_ne (by decide)]
  have gw : ∀ b, wt (am_pI (am_pI m 87 4 (iI (qn : Int))) 90 a 0) b = if b = a then false else wt m b := by
    intro b
    unfold wt
    rw [g90]
    by_cases c : b = a
    · rw [if_pos c, if_pos c]; rfl
    · rw [if_neg c, if_neg c]
  have g89 : (am_pI (am_pI m 87 4 (iI (qn : Int))) 90 a 0).1 89 = m.1 89 := by rw [am_pI_ne (by decide), am_pI_ne (by decide)]
  unfold QI
  rw [g89]
  refine ⟨?_, ?_, ?_, ?_, ?_, ?_⟩
  · rw [am_pI_ne (by decide), am_pI_at, if_pos rfl]
  · rw [am_pI_ne (by decide), am_pI_at, if_neg (by decide), q2, show hd + 1 + qn = hd + (qn + 1) by omega]
  · have e := fb_ct_upd (wt m) false ha
    rw [wa, if_pos rfl, if_neg Bool.false_ne_true] at e
    rw [show wt (am_pI (am_pI m 87 4 (iI (qn : Int))) 90 a 0) = fun k => if k = a then false else wt m k from funext gw]
    omega
  · intro j hj
    obtain ⟨b, h1, h2, h3⟩ := q4 (j + 1) (by omega)
    rw [show hd + (j + 1) = hd + 1 + j by omega] at h2
    refine ⟨b, h1, h2, ?_⟩
    rw [gw, if_neg (fun e => ne j hj (by rw [h2, e])), h3]
  · intro b hb hw
    rw [gw] at hw
    by_cases c : b = a
    · rw [if_pos c] at hw; cases hw
    · rw [if_neg c] at hw
      obtain ⟨j, h1, h2⟩ := q5 b hb hw
      by_cases j0 : j = 0
      · rw [j0, Nat.add_zero, he] at h2
        exact absurd (iI_inj (by omega) (by omega) h2).symm c
      · exact ⟨j - 1, by omega, by rw [show hd + 1 + (j - 1) = hd + j by omega]; exact h2⟩
  · intro i j hij hj
    have := q6 (i + 1) (j + 1) (by omega) (by omega)
    rw [show hd + (i + 1) = hd + 1 + i by omega, show hd + (j + 1) = hd + 1 + j by omega] at this
    exact this
def lvt (m : am_M) (q : Nat) : Nat := if q < 256 then lv m q else 1000000000
theorem lvt_lt {m : am_M} {q : Nat} (h : q < 256) : lvt m q = lv m q := if_pos h
theorem lv_le {m : am_M} {B q : Nat} (hL : LB m B) (hB : B ≤ 900000000) (hq : q < 256) : lv m q ≤ 1000000000 := by
  by_cases c : m.1 88 q = -1
  · rw [lv_n c]; exact Nat.le_refl _
  · have := lv_v hL (by omega) hq c
    omega
theorem low_tab {ed : Nat → Nat → Bool} {w : Nat → Nat → Nat} {g : Nat} {X D : Nat → Nat} (hg : gr ed w) (hD : tab ed w g D) (hX : ∀ q, q < 256 → X q < 1000000000 → q = g ∨ ∃ a, ed a q = true ∧ X a < 1000000000 ∧ X a + w q a ≤ X q) : ∀ n q, X q = n → q < 256 → X q < 1000000000 → D q ≤ X q := by
  intro n
  induction n using Nat.strongRecOn with
  | ind n ih =>
    intro q hn hq hl
    rcases hX q hq hl with e | ⟨a, h1, h2, h3⟩
    · rw [e, hD.1]
      exact Nat.zero_le _
    · have hw := hg a q h1
      have := ih (X a) (by omega) a rfl hw.1 h2
      have := hD.2.1 a q h1 (by omega)
      omega
/-- the table, as it will be: phase r, of which c squares wait -/
def LI (m0 m1 : am_M) (g n r c qn : Nat) : Prop := Ag [87, 88, 89, 90] m0 m1 ∧ m1.1 87 6 = iI (g : Int) ∧ QI m1 n qn ∧ LB m1 (460 * n) ∧ lv m1 g = 0 ∧
  (∀ q, q < 256 → lv m1 q < 1000000000 → q = g ∨ ∃ a, ced m0 a q = true ∧ lv m1 a < 1000000000 ∧ lv m1 a + cw m0 q a ≤ lv m1 q) ∧
  (∀ q, q < 256 → lv m1 q < 1000000000 → wb (m0.2.1 8) q = true) ∧
  (∀ q, q < 256 → wt m1 q = true → lv m1 q < 1000000000) ∧
  (∀ a b, ced m0 a b = true → lv m1 a < 1000000000 → wt m1 a = false → lv m1 b ≤ lv m1 a + cw m0 b a) ∧
  (∀ q, q < 256 → lv m1 q ≤ BD (ced m0) (cw m0) g r q) ∧
  (∀ a b, ced m0 a b = true → BD (ced m0) (cw m0) g r a < 1000000000 → (∀ j, j < c → m1.1 89 ((n + j) % 256) ≠ iI (a : Int)) → lv m1 b ≤ BD (ced m0) (cw m0) g r a + cw m0 b a) ∧
  c ≤ qn ∧ (0 < qn → 0 < c) ∧ r ≤ 255 ∧ n + c ≤ 1 + 256 * r ∧ (r = 255 → qn = c)
theorem LI_step {m0 m1 m3 : am_M} {g n r c qn qn3 a : Nat} (hW : WO m0) (hg2 : g < 256) (h : LI m0 m1 g n r c (qn + 1)) (ha : a < 256) (he : m1.1 89 (n % 256) = iI (a : Int)) (hR : RI (am_pI (am_pI m1 87 4 (iI (qn : Int))) 90 a 0) m3 a (n + 1) qn qn3 4) : ∃ r' c', LI m0 m3 g (n + 1) r' c' qn3 := by
  obtain ⟨l1, l2, l3, l4, l5, l6, l7, l8, l9, l10, l11, l12, l13, l14, l15, l16⟩ := h
  have hn : n ≤ 65281 := by omega
  obtain ⟨wa, qp, qne⟩ := QI_pop (by have := l3.2.2.1; have := fb_ct_le (wt m1) 256; omega) l3 ha he
  obtain ⟨r1, r2, r3, r4, r5, r6, r7, r8⟩ := hR
  have hgr := cgr hW
  have g88 : (am_pI (am_pI m1 87 4 (iI (qn : Int))) 90 a 0).1 88 = m1.1 88 := by rw [am_pI_ne (by decide), am_pI_ne (by decide)]
  have g89 : (am_pI (am_pI m1 87 4 (iI (qn : Int))) 90 a 0).1 89 = m1.1 89 := by rw [am_pI_ne (by decide), am_pI_ne (by decide)]
  have glv : ∀ q, lv (am_pI (am_pI m1 87 4 (iI (qn : Int))) 90 a 0) q = lv m1 q := fun q => by unfold lv; rw [g88]
  have g2a : Ag [87, 88, 89, 90] m0 (am_pI (am_pI m1 87 4 (iI (qn : Int))) 90 a 0) := (l1.pI (by decide) _ _).pI (by decide) _ _
  have ged : ∀ x y, ced (am_pI (am_pI m1 87 4 (iI (qn : Int))) 90 a 0) x y = ced m0 x y := fun x y => ced_fr (g2a.J (by decide)) x y
  have gcw : ∀ x y, cw (am_pI (am_pI m1 87 4 (iI (qn : Int))) 90 a 0) x y = cw m0 x y := fun x y => cw_fr (g2a.I (by decide)) (g2a.I (by decide)) x y
  have gcb : ∀ x k, cbs (am_pI (am_pI m1 87 4 (iI (qn : Int))) 90 a 0) x k = cbs m0 x k := fun x k => cbs_fr (g2a.J (by decide)) x k
  have g90 : ∀ b, b ≠ a → (am_pI (am_pI m1 87 4 (iI (qn : Int))) 90 a 0).1 90 b = m1.1 90 b := by
    intro b hb
    rw [am_pI_at, if_neg hb, am_pI_ne (by decide)]
  have g90a : (am_pI (am_pI m1 87 4 (iI (qn : Int))) 90 a 0).1 90 a = 0 := by rw [am_pI_at, if_pos rfl]
  have g6 : (am_pI (am_pI m1 87 4 (iI (qn : Int))) 90 a 0).1 87 6 = m1.1 87 6 := by rw [am_pI_ne (by decide), am_pI_at, if_neg (by decide)]
  generalize am_pI (am_pI m1 87 4 (iI (qn : Int))) 90 a 0 = m2 at *
  rw [g89] at r5
  have alt : lv m1 a < 1000000000 := l8 a ha wa
  have hlv : ∀ q, q < 256 → lv m1 q ≤ 1000000000 := fun q hq => lv_le l4 (by omega) hq
  -- each square: as it was, or better by a
  have alt2 : ∀ b, b < 256 → (lv m3 b = lv m1 b ∧ m3.1 88 b = m1.1 88 b ∧ m3.1 90 b = m2.1 90 b) ∨ (ced m0 a b = true ∧ lv m3 b = lv m1 a + cw m0 b a ∧ lv m1 a + cw m0 b a < lv m1 b ∧ wt m3 b = true ∧ m3.1 88 b = iI ((lv m1 a + cw m0 b a : Nat) : Int)) := by
    intro b hb
    rcases r6 b hb with y | y
    · rw [g88] at y
      exact Or.inl ⟨by unfold lv; rw [y.1], y.1, y.2⟩
    · rw [ged, gcw, glv, glv] at y
      have := hlv b hb
      refine Or.inr ⟨y.1, ?_, y.2.2.1, y.2.2.2, y.2.1⟩
      have y21 := y.2.1
      have y22 := y.2.2.1
      unfold lv at y21 ⊢
      rw [y21]
      have ne : ¬ iI (((if m1.1 88 a = -1 then 1000000000 else (m1.1 88 a).toInt.toNat) + cw m0 b a : Nat) : Int) = (-1 : Int32) := fun e => by
        have := (iI_eq (b := -1) (by omega) (by unfold lv at y22 this; omega) (by omega) (by omega)).mp e
        omega
      rw [if_neg ne, iI_to (by omega) (by unfold lv at y22 this; omega), Int.toNat_natCast]
  have le3 : ∀ b, b < 256 → lv m3 b ≤ lv m1 b := by
    intro b hb
    rcases alt2 b hb with y | y <;> omega
  have eqa : lv m3 a = lv m1 a := by
    rcases alt2 a ha with y | y
    · exact y.1
    · have := y.2.2.1
      omega
  have rel : ∀ y, ced m0 a y = true → lv m3 y ≤ lv m1 a + cw m0 y a := by
    intro y hy
    obtain ⟨_, _, k, hk, hcb⟩ := ced_k m0 hy
    have := r7 k hk y (by rw [gcb]; exact hcb)
    rw [glv, gcw] at this
    exact this
  have J3 : ∀ q, q < 256 → lv m3 q < 1000000000 → q = g ∨ ∃ x, ced m0 x q = true ∧ lv m3 x < 1000000000 ∧ lv m3 x + cw m0 q x ≤ lv m3 q := by
    intro q hq hl
    rcases alt2 q hq with y | y
    · rcases l6 q hq (by omega) with z | ⟨x, h1, h2, h3⟩
      · exact Or.inl z
      · have := le3 x (hgr x q h1).1
        exact Or.inr ⟨x, h1, by omega, by omega⟩
    · exact Or.inr ⟨a, y.1, by omega, by omega⟩
  have J5 : ∀ q, q < 256 → lv m3 q < 1000000000 → wb (m0.2.1 8) q = true := by
    intro q hq hl
    rcases alt2 q hq with y | y
    · exact l7 q hq (by omega)
    · obtain ⟨_, _, k, hk, hcb⟩ := ced_k m0 y.1
      have := (cbs_b m0 ha hk).resolve_left (by omega)
      rw [hcb, Int.toNat_natCast] at this
      exact this.2.2
  have J6 : ∀ q, q < 256 → wt m3 q = true → lv m3 q < 1000000000 := by
    intro q hq hw
    rcases alt2 q hq with y | y
    · by_cases e : q = a
      · rw [e]; omega
      · have : wt m1 q = true := by
          unfold wt at hw ⊢
          rw [← g90 q e, ← y.2.2]
          exact hw
        have := l8 q hq this
        omega
    · have := hlv q hq
      omega
  have J4 : ∀ x y, ced m0 x y = true → lv m3 x < 1000000000 → wt m3 x = false → lv m3 y ≤ lv m3 x + cw m0 y x := by
    intro x y hxy hl hw
    have hx := hgr x y hxy
    by_cases e : x = a
    · rw [e] at hxy ⊢
      have := rel y hxy
      omega
    · rcases alt2 x hx.1 with z | z
      · have hw1 : wt m1 x = false := by
          unfold wt at hw ⊢
          rw [← g90 x e, ← z.2.2]
          exact hw
        have := l9 x y hxy (by omega) hw1
        have := le3 y hx.2.1
        omega
      · rw [z.2.2.2.1] at hw
        cases hw
  have J7 : ∀ x y, ced m0 x y = true → BD (ced m0) (cw m0) g r x < 1000000000 → (∀ j, j < c - 1 → m3.1 89 ((n + 1 + j) % 256) ≠ iI (x : Int)) → lv m3 y ≤ BD (ced m0) (cw m0) g r x + cw m0 y x := by
    intro x y hxy hl hz
    have hx := hgr x y hxy
    by_cases e : x = a
    · rw [e] at hxy ⊢
      have := rel y hxy
      have := l10 a ha
      omega
    · have := l11 x y hxy hl (fun j hj => by
        by_cases j0 : j = 0
        · rw [j0, Nat.add_zero, he]
          intro e2
          exact e (iI_inj (by omega) (by omega) e2).symm
        · have := hz (j - 1) (by omega)
          rw [r5 (j - 1) (by omega), show n + 1 + (j - 1) = n + j by omega] at this
          exact this)
      have := le3 y hx.2.1
      omega
  have nopush : r = 255 → qn3 = qn := by
    intro hr
    rcases r8 with z | ⟨b, h1, h2, h3⟩
    · exact z
    · exfalso
      rw [ged] at h2
      rw [gcw, glv, glv] at h3
      obtain ⟨D, hD⟩ := tab_ex (g := g) hgr
      have lo := low_tab hgr hD (X := lv m1) l6 _ a rfl ha alt
      have e1 := BD_255 hgr hD hg2 ha (by omega)
      have u1 := l10 a ha
      rw [hr, e1] at u1
      have := hD.2.1 a b h2 (by omega)
      have := hlv b h1
      have e2 := BD_255 hgr hD hg2 h1 (by omega)
      have u2 := l10 b h1
      rw [hr, e2] at u2
      omega
  have LB3 : LB m3 (460 * (n + 1)) := by
    intro q hq
    rcases alt2 q hq with y | y
    · rw [y.2.1]
      rcases l4 q hq with z | z
      · exact Or.inl z
      · exact Or.inr ⟨z.1, by omega⟩
    · right
      have hw := hgr a q y.1
      have hv : ¬ m1.1 88 a = -1 := fun z => by rw [lv_n z] at alt; omega
      have hla := lv_v l4 (by omega) ha hv
      rw [y.2.2.2.2, iI_to (by omega) (by omega)]
      omega
  have lg : lv m3 g = 0 := by
    have := le3 g hg2
    omega
  have q3b := r3.2.2.1
  have q3c := fb_ct_le (wt m3) 256
  have base : Ag [87, 88, 89, 90] m0 m3 := g2a.tr r1
  have hgoal : m3.1 87 6 = iI (g : Int) := by rw [r2, g6]; exact l2
  by_cases sw : c = 1 ∧ 0 < qn3
  · -- the next phase
    have hr : r < 255 := by
      by_cases e : r = 255
      · have := nopush e
        have := l16 e
        omega
      · omega
    have c0 : c - 1 = 0 := by omega
    have up : ∀ q, q < 256 → lv m3 q ≤ BD (ced m0) (cw m0) g (r + 1) q := by
      intro q hq
      have e : BD (ced m0) (cw m0) g (r + 1) q = rx (ced m0) (cw m0) (BD (ced m0) (cw m0) g r) q 256 := rfl
      rw [e]
      rcases rx_or (ced m0) (cw m0) (BD (ced m0) (cw m0) g r) q 256 with z | ⟨x, h1, h2, h3⟩
      · rw [z]
        exact Nat.le_trans (le3 q hq) (l10 q hq)
      · rw [h3]
        exact J7 x q h1 h2 (fun j hj => by omega)
    refine ⟨r + 1, qn3, base, hgoal, r3, LB3, lg, J3, J5, J6, J4, up, ?_, Nat.le_refl _, fun z => z, by omega, by omega, fun _ => rfl⟩
    intro x y hxy hl hz
    have hx := hgr x y hxy
    have hw : wt m3 x = false := by
      cases hp : wt m3 x
      · rfl
      · obtain ⟨j, h1, h2⟩ := r3.2.2.2.2.1 x hx.1 hp
        exact absurd h2 (hz j h1)
    have := up x hx.1
    have := J4 x y hxy (by omega) hw
    omega
  · clear r8
    refine ⟨r, c - 1, base, hgoal, r3, LB3, lg, J3, J5, J6, J4, fun q hq => Nat.le_trans (le3 q hq) (l10 q hq), J7, by omega, fun z => by omega, l14, by omega, fun e => ?_⟩
    have := nopush e
    have := l16 e
    omega
def wz (m : am_M) : Prop := ∀ q, q < 256 → m.1 90 q = 0
def wtab (m : am_M) (g : Nat) : Prop := LB m 40000000 ∧ tab (ced m) (cw m) g (lvt m)
theorem S_leadLoop (m : am_M) (Q : Option Value → am_M → Prop) (hW : WO m) (g : Nat) (hg : g < 256) (h : ∀ m1, Ag [87, 88, 89, 90] m m1 → m1.1 87 6 = iI (g : Int) → wz m1 → wtab m1 g → Q none m1) : ∀ (d n r c qn : Nat) (m1 : am_M), n + d = 65536 → LI m m1 g n r c qn → am_WP YL 94 0 0 59 [some (.ref 87), none, some (.int (iI (n : Int))), some (.int (iI (n : Int))), none] [] m1 Q := by
  intro d
  induction d with
  | zero =>
    intro n r c qn m1 hd hI
    have := hI.2.2.2.2.2.2.2.2.2.2.2.2.2.2.1
    have := hI.2.2.2.2.2.2.2.2.2.2.2.2.2.1
    omega
  | succ d ih =>
    intro n r c qn m1 hd hI
    have hI0 := hI
    obtain ⟨l1, l2, l3, l4, l5, l6, l7, l8, l9, l10, l11, l12, l13, l14, l15, l16⟩ := hI0
    have e8 : m1.2.1 8 = m.2.1 8 := l1.J (by decide)
    have e5 : m1.1 5 = m.1 5 := l1.I (by decide)
    have e6 : m1.1 6 = m.1 6 := l1.I (by decide)
    have qle := l3.2.2.1
    have qle2 := fb_ct_le (wt m1) 256
    refine B_X8_leadTo_59 m1 Q _ _ ⟨fun z => absurd ((iI_le (a := 65536) (by omega) (by omega) (by omega) (by omega)).mp z) (by omega), fun _ => ?_⟩
    rw [l3.1]
    refine ⟨fun z => ?_, fun z => ?_⟩
    · have q0 : qn = 0 := by have := (iI_le (b := 0) (by omega) (by omega) (by omega) (by omega)).mp z; omega
      have nw : ∀ q, q < 256 → wt m1 q = false := fb_ct_zero.mp (qle.symm.trans q0)
      have zw : wz m1 := by
        intro q hq
        have := nw q hq
        unfold wt at this
        by_cases c : m1.1 90 q = 0
        · exact c
        · rw [decide_eq_false c] at this; cases this
      have ed1 : ced m1 = ced m := funext fun a => funext fun b => ced_fr e8 a b
      have cw1 : cw m1 = cw m := funext fun a => funext fun b => cw_fr e5 e6 a b
      have hgr := cgr hW
      refine h m1 l1 l2 zw ⟨?_, ?_⟩
      · intro q hq
        rcases l4 q hq with z | z
        · exact Or.inl z
        · exact Or.inr ⟨z.1, by omega⟩
      · rw [ed1, cw1]
        have cl : ∀ a b, ced m a b = true → lvt m1 a < 1000000000 → lvt m1 b ≤ lvt m1 a + cw m b a := by
          intro a b hab hl
          have hx := hgr a b hab
          rw [lvt_lt hx.1] at hl ⊢
          rw [lvt_lt hx.2.1]
          exact l9 a b hab hl (nw a hx.1)
        refine ⟨by rw [lvt_lt hg]; exact l5, cl, fun q hq => ?_⟩
        by_cases c : q < 256
        · rw [lvt_lt c] at hq ⊢
          rcases l6 q c hq with z | ⟨a, h1, h2, h3⟩
          · exact Or.inl z
          · have hx := hgr a q h1
            refine Or.inr ⟨a, h1, by rw [lvt_lt hx.1]; exact h2, ?_⟩
            have := cl a q h1 (by rw [lvt_lt hx.1]; exact h2)
            rw [lvt_lt hx.1, lvt_lt c] at this
            rw [lvt_lt hx.1]
            omega
        · unfold lvt at hq
          rw [if_neg c] at hq
          omega
    · have qp : 0 < qn := by
        by_cases c : qn = 0
        · rw [c] at z
          exact absurd (by decide) z
        · omega
      obtain ⟨qn', rfl⟩ : ∃ k, qn = k + 1 := ⟨qn - 1, by omega⟩
      obtain ⟨a, ha, he, hw⟩ := l3.2.2.2.1 0 (Nat.succ_pos _)
      rw [Nat.add_zero] at he
      have lva := l8 a ha hw
      have pop := QI_pop (by omega) l3 ha he
      rw [show (255 : Int32) = iI 255 from rfl, iI_m255 (by omega) (by omega), show ((n : Nat) : Int) % 256 = ((n % 256 : Nat) : Int) by omega, iI_cl (by omega) (by omega), Int.toNat_natCast, iI_in (by omega) (by omega), he, iI_m255 (by omega) (by omega), show ((a : Nat) : Int) % 256 = (a : Int) by omega, iI_cl (by omega) (by omega), Int.toNat_natCast, iI_in (by omega) (by omega), show (1 : Int32) = iI 1 from rfl, iI_sub, show ((qn' + 1 : Nat) : Int) - 1 = (qn' : Int) by omega]
      refine ⟨by omega, by omega, ?_⟩
      have g2a : Ag [87, 88, 89, 90] m (am_pI (am_pI m1 87 4 (iI (qn' : Int))) 90 a 0) := (l1.pI (by decide) _ _).pI (by decide) _ _
      have W2 : WO (am_pI (am_pI m1 87 4 (iI (qn' : Int))) 90 a 0) := by
        unfold WO
        rw [g2a.I (show 5 ∉ _ by decide), g2a.I (show 6 ∉ _ by decide), g2a.J (show 8 ∉ _ by decide)]
        exact hW
      have g88 : (am_pI (am_pI m1 87 4 (iI (qn' : Int))) 90 a 0).1 88 = m1.1 88 := by rw [am_pI_ne (by decide), am_pI_ne (by decide)]
      refine S_relax _ _ W2 (460 * n) (n + 1) qn' a ha ?_ (by omega) pop.2.1 ?_ (by omega) ?_ ?_ (fun m3 qn3 hR => B_X8_leadTo_115 m3 Q _ _ ?_)
      · rw [g2a.J (show 8 ∉ _ by decide)]
        exact l7 a ha lva
      · unfold LB
        rw [g88]
        exact l4
      · rw [g88]
        intro z
        rw [lv_n z] at lva
        omega
      · rw [am_pI_ne (by decide), am_pI_at, if_neg (by decide), l2]
        intro z
        have := (iI_eq (b := -1) (by omega) (by omega) (by omega) (by omega)).mp z
        omega
      · obtain ⟨r', c', hI3⟩ := LI_step hW hg hI ha he hR
        rw [iI_add, iI_i1]
        exact ih (n + 1) r' c' qn3 m3 (by omega) hI3
theorem S_leadTo (m : am_M) (Q : Option Value → am_M → Prop) (hW : WO m) (g : Nat) (hg : g < 256) (ht : wb (m.2.1 8) g = true) (hz : wz m) (hc : m.1 87 6 = iI (g : Int) → wtab m g) (h : ∀ m1, Ag [87, 88, 89, 90] m m1 → m1.1 87 6 = iI (g : Int) → wz m1 → wtab m1 g → Q none m1) : am_WP YL 94 0 0 0 [some (.ref 87), some (.int (iI (g : Int))), none, none, none] [] m Q := by
  refine B_X8_leadTo_0 m Q _ ⟨fun z => h m (Ag.rf _ m) z.symm hz (hc z.symm), fun _ => ⟨fun z => absurd ((iI_lt (b := 0) (by omega) (by omega) (by omega) (by omega)).mp z) (by omega), fun _ => ⟨fun _ => ?_, fun z => absurd ((iI_lt (b := 256) (by omega) (by omega) (by omega) (by omega)).mpr (by omega)) z⟩⟩⟩
  refine S_fillI _ _ 88 256 rfl rfl (by decide) (-1) (B_X8_leadTo_33 _ Q _ ?_)
  rw [iI_cl (by omega) (by omega), Int.toNat_natCast, iI_in (by omega) (by omega)]
  refine ⟨by omega, ?_⟩
  have f1 : Ag [87, 88, 89, 90] m (am_pI (am_pI (am_pI (am_wI (am_pI m 87 6 (iI (g : Int))) 88 (am_fx 256 (fun _ => -1) ((am_pI m 87 6 (iI (g : Int))).1 88))) 88 g 0) 87 5 0) 87 4 0) := ((((((Ag.rf _ m).pI (by decide) _ _).wI (by decide) _).pI (by decide) _ _).pI (by decide) _ _).pI (by decide) _ _)
  have g88 : ∀ q, q < 256 → (am_pI (am_pI (am_pI (am_wI (am_pI m 87 6 (iI (g : Int))) 88 (am_fx 256 (fun _ => -1) ((am_pI m 87 6 (iI (g : Int))).1 88))) 88 g 0) 87 5 0) 87 4 0).1 88 q = if q = g then 0 else -1 := by
    intro q hq
    rw [am_pI_ne (by decide), am_pI_ne (by decide), am_pI_at]
    by_cases c : q = g
    · rw [if_pos c, if_pos c]
    · rw [if_neg c, if_neg c, am_wI_at, am_fx_lt hq]
  have g6 : (am_pI (am_pI (am_pI (am_wI (am_pI m 87 6 (iI (g : Int))) 88 (am_fx 256 (fun _ => -1) ((am_pI m 87 6 (iI (g : Int))).1 88))) 88 g 0) 87 5 0) 87 4 0).1 87 6 = iI (g : Int) := by
    rw [am_pI_at, if_neg (by decide), am_pI_at, if_neg (by decide), am_pI_ne (by decide), am_wI_ne (by decide), am_pI_at, if_pos rfl]
  have g90 : (am_pI (am_pI (am_pI (am_wI (am_pI m 87 6 (iI (g : Int))) 88 (am_fx 256 (fun _ => -1) ((am_pI m 87 6 (iI (g : Int))).1 88))) 88 g 0) 87 5 0) 87 4 0).1 90 = m.1 90 := by
    rw [am_pI_ne (by decide), am_pI_ne (by decide), am_pI_ne (by decide), am_wI_ne (by decide), am_pI_ne (by decide)]
  have g4 : (am_pI (am_pI (am_pI (am_wI (am_pI m 87 6 (iI (g : Int))) 88 (am_fx 256 (fun _ => -1) ((am_pI m 87 6 (iI (g : Int))).1 88))) 88 g 0) 87 5 0) 87 4 0).1 87 4 = 0 := by rw [am_pI_at, if_pos rfl]
  have g5 : (am_pI (am_pI (am_pI (am_wI (am_pI m 87 6 (iI (g : Int))) 88 (am_fx 256 (fun _ => -1) ((am_pI m 87 6 (iI (g : Int))).1 88))) 88 g 0) 87 5 0) 87 4 0).1 87 5 = 0 := by rw [am_pI_at, if_neg (by decide), am_pI_at, if_pos rfl]
  generalize am_pI (am_pI (am_pI (am_wI (am_pI m 87 6 (iI (g : Int))) 88 (am_fx 256 (fun _ => -1) ((am_pI m 87 6 (iI (g : Int))).1 88))) 88 g 0) 87 5 0) 87 4 0 = m1 at *
  have w0 : ∀ q, q < 256 → wt m1 q = false := fun q hq => by unfold wt; rw [g90, decide_eq_true (hz q hq)]; rfl
  have c0 : fb_ct (wt m1) 256 = 0 := fb_ct_zero.mpr w0
  have Q0 : QI m1 0 0 := ⟨g4, g5, c0.symm, fun j hj => absurd hj (Nat.not_lt_zero j), fun q hq hw => (by rw [w0 q hq] at hw; cases hw), fun i j _ hj => absurd hj (Nat.not_lt_zero j)⟩
  refine S_push m1 _ 0 0 g hg (by omega) Q0 (fun m2 qn1 a1 a2 a3 a4 a5 a6 a7 => B_X8_leadTo_55 m2 Q ?_)
  have e1 : qn1 = 1 := by
    have e := fb_ct_upd (wt m1) true hg
    rw [w0 g hg, c0, if_neg Bool.false_ne_true, if_pos rfl] at e
    have e2 : ∀ x, x < 256 → wt m2 x = if x = g then true else wt m1 x := by
      intro x _
      by_cases c : x = g
      · rw [if_pos c, c, a7]
      · rw [if_neg c]
        unfold wt
        rw [a6 x c]
    have := a3.2.2.1
    rw [fb_ct_cong e2] at this
    omega
  subst e1
  have f2 : Ag [87, 88, 89, 90] m m2 := f1.tr (a1.sub (by decide))
  have v88 : ∀ q, q < 256 → m2.1 88 q = if q = g then 0 else -1 := fun q hq => by rw [a1.I (by decide)]; exact g88 q hq
  have lg : lv m2 g = 0 := by
    unfold lv
    rw [v88 g hg, if_pos rfl]
    rfl
  have ln : ∀ q, q < 256 → q ≠ g → lv m2 q = 1000000000 := fun q hq c => lv_n (by rw [v88 q hq, if_neg c])
  have wg : ∀ q, q < 256 → wt m2 q = true → q = g := by
    intro q hq hw
    by_cases c : q = g
    · exact c
    · have := w0 q hq
      unfold wt at this hw
      rw [a6 q c, this] at hw
      cases hw
  have first : m2.1 89 ((0 + 0) % 256) = iI (g : Int) := by
    obtain ⟨j, h1, h2⟩ := a3.2.2.2.2.1 g hg a7
    obtain rfl : j = 0 := by omega
    exact h2
  have B0 : ∀ q, q ≠ g → BD (ced m) (cw m) g 0 q = 1000000000 := fun q c => if_neg c
  refine S_leadLoop m Q hW g hg h 65536 0 0 1 1 m2 (by omega) ⟨f2, by rw [a2]; exact g6, a3, ?_, lg, ?_, ?_, ?_, ?_, ?_, ?_, Nat.le_refl _, fun z => z, by omega, by omega, fun z => by omega⟩
  · intro q hq
    rw [v88 q hq]
    by_cases c : q = g
    · rw [if_pos c]
      exact Or.inr ⟨by decide, by decide⟩
    · rw [if_neg c]
      exact Or.inl rfl
  · intro q hq hl
    by_cases c : q = g
    · exact Or.inl c
    · rw [ln q hq c] at hl
      omega
  · intro q hq hl
    by_cases c : q = g
    · rw [c]; exact ht
    · rw [ln q hq c] at hl
      omega
  · intro q hq hw
    rw [wg q hq hw, lg]
    omega
  · intro a b hab hl hw
    have hx := cgr hW a b hab
    by_cases c : a = g
    · rw [c, a7] at hw; cases hw
    · rw [ln a hx.1 c] at hl
      omega
  · intro q hq
    by_cases c : q = g
    · rw [c, lg]; exact Nat.zero_le _
    · rw [ln q hq c, B0 q c]; exact Nat.le_refl _
  · intro a b hab hl hz
    by_cases c : a = g
    · rw [c] at hz
      exact absurd first (hz 0 (by omega))
    · rw [B0 a c] at hl
      omega
