/-! ===== the queue of the class's ways ===== -/
def wt (m : am_M) (q : Nat) : Bool := !decide (m.1 90 q = 0)
def QI (m : am_M) (hd qn : Nat) : Prop := m.1 87 4 = iI (qn : Int) ∧ m.1 87 5 = iI ((hd + qn : Nat) : Int) ∧ qn = fb_ct (wt m) 256 ∧ (∀ j, j < qn → ∃ a : Nat, a < 256 ∧ m.1 89 ((hd + j) % 256) = iI (a : Int) ∧ wt m a = true) ∧ (∀ q, q < 256 → wt m q = true → ∃ j, j < qn ∧ m.1 89 ((hd + j) % 256) = iI (q : Int)) ∧ (∀ i j, i < j → j < qn → m.1 89 ((hd + i) % 256) ≠ m.1 89 ((hd + j) % 256))
theorem iI_inj {a b : Nat} (ha : a < 2147483648) (hb : b < 2147483648) (h : iI (a : Int) = iI (b : Int)) : a = b := by
  have := (iI_eq (by omega) (by omega) (by omega) (by omega)).mp h
  omega
theorem S_push (m : am_M) (Q : Option Value → am_M → Prop) (hd qn q : Nat) (hq : q < 256) (hb : hd + qn ≤ 100000) (hQ : QI m hd qn)
    (h : ∀ m1 qn1, Ag [87, 89, 90] m m1 → m1.1 87 6 = m.1 87 6 → QI m1 hd qn1 → qn ≤ qn1 → (∀ j, j < qn → m1.1 89 ((hd + j) % 256) = m.1 89 ((hd + j) % 256)) → (∀ b, b ≠ q → m1.1 90 b = m.1 90 b) → wt m1 q = true → Q none m1) : am_WP YL 95 0 0 0 [some (.ref 87), some (.int (iI (q : Int)))] [] m Q := by
  refine D_X8_push_0 m Q _ ?_
  simp (disch := omega) only [iI_lit, iI_lt, iI_le, iI_in, iI_cl, Int.toNat_natCast]
  refine ⟨fun z => by omega, fun _ => ⟨fun z => by omega, fun _ => ⟨by omega, fun z => ?_, fun z => ⟨by omega, ?_⟩⟩⟩⟩
  · refine D_X8_push_61 m Q (h m qn (Ag.rf _ m) rfl hQ (Nat.le_refl _) (fun _ _ => rfl) (fun _ _ => rfl) ?_)
    unfold wt
    rw [decide_eq_false (show ¬ m.1 90 q = 0 from z)]
    rfl
  · obtain ⟨q1, q2, q3, q4, q5, q6⟩ := hQ
    have wq : wt m q = false := by unfold wt; rw [decide_eq_true (show m.1 90 q = 0 from z)]; rfl
    have lq : qn < 256 := by
      have := fb_ct_le (wt m) 256
      by_cases c : qn = 256
      · have := fb_ct_all.mp (q3.symm.trans c) q hq
        rw [wq] at this
        cases this
      · omega
    refine D_X8_push_27 _ Q _ ?_
    have e5 : (am_pI m 90 q (iI 1)).1 87 5 = iI ((hd + qn : Nat) : Int) := by rw [am_pI_ne (by decide), q2]
    rw [e5, show (255 : Int32) = iI 255 from rfl, iI_m255 (by omega) (by omega), show ((hd + qn : Nat) : Int) % 256 = (((hd + qn) % 256 : Nat) : Int) by omega, iI_cl (by omega) (by omega), Int.toNat_natCast, iI_in (by omega) (by omega)]
    refine ⟨by omega, D_X8_push_41 _ Q (D_X8_push_51 _ Q (D_X8_push_61 _ Q ?_))⟩
    have e5' : (am_pI (am_pI m 90 q (iI 1)) 89 ((hd + qn) % 256) (iI (q : Int))).1 87 5 = iI ((hd + qn : Nat) : Int) := by rw [am_pI_ne (by decide), am_pI_ne (by decide), q2]
    rw [e5', iI_i1]
    have e4 : (am_pI (am_pI (am_pI m 90 q (iI 1)) 89 ((hd + qn) % 256) (iI (q : Int))) 87 5 (iI (((hd + qn : Nat) : Int) + 1))).1 87 4 = iI (qn : Int) := by rw [am_pI_at, if_neg (by decide), am_pI_ne (by decide), am_pI_ne (by decide), q1]
    rw [e4, iI_i1]
    have f4 : Ag [87, 89, 90] m (am_pI (am_pI (am_pI (am_pI m 90 q (iI 1)) 89 ((hd + qn) % 256) (iI (q : Int))) 87 5 (iI (((hd + qn : Nat) : Int) + 1))) 87 4 (iI ((qn : Int) + 1))) := ((((Ag.rf _ m).pI (by decide) _ _).pI (by decide) _ _).pI (by decide) _ _).pI (by decide) _ _
    have g90 : ∀ b, (am_pI (am_pI (am_pI (am_pI m 90 q (iI 1)) 89 ((hd + qn) % 256) (iI (q : Int))) 87 5 (iI (((hd + qn : Nat) : Int) + 1))) 87 4 (iI ((qn : Int) + 1))).1 90 b = if b = q then iI 1 else m.1 90 b := by
      intro b
      rw [am_pI_ne (by decide), am_pI_ne (by decide), am_pI_ne (by decide), am_pI_at]
    have g89 : ∀ b, (am_pI (am_pI (am_pI (am_pI m 90 q (iI 1)) 89 ((hd + qn) % 256) (iI (q : Int))) 87 5 (iI (((hd + qn : Nat) : Int) + 1))) 87 4 (iI ((qn : Int) + 1))).1 89 b = if b = (hd + qn) % 256 then iI (q : Int) else m.1 89 b := by
      intro b
      rw [am_pI_ne (by decide), am_pI_ne (by decide), am_pI_at, am_pI_ne (by decide)]
    have g6 : (am_pI (am_pI (am_pI (am_pI m 90 q (iI 1)) 89 ((hd + qn) % 256) (iI (q : Int))) 87 5 (iI (((hd + qn : Nat) : Int) + 1))) 87 4 (iI ((qn : Int) + 1))).1 87 6 = m.1 87 6 := by
      rw [am_pI_at, if_neg (by decide), am_pI_at, if_neg (by decide), am_pI_ne (by decide), am_pI_ne (by decide)]
    have g4 : (am_pI (am_pI (am_pI (am_pI m 90 q (iI 1)) 89 ((hd + qn) % 256) (iI (q : Int))) 87 5 (iI (((hd + qn : Nat) : Int) + 1))) 87 4 (iI ((qn : Int) + 1))).1 87 4 = iI ((qn : Int) + 1) := by
      rw [am_pI_at, if_pos rfl]
    have g5 : (am_pI (am_pI (am_pI (am_pI m 90 q (iI 1)) 89 ((hd + qn) % 256) (iI (q : Int))) 87 5 (iI (((hd + qn : Nat) : Int) + 1))) 87 4 (iI ((qn : Int) + 1))).1 87 5 = iI (((hd + qn : Nat) : Int) + 1) := by
      rw [am_pI_at, if_neg (by decide), am_pI_at, if_pos rfl]
    generalize am_pI (am_pI (am_pI (am_pI m 90 q (iI 1)) 89 ((hd + qn) % 256) (iI (q : Int))) 87 5 (iI (((hd + qn : Nat) : Int) + 1))) 87 4 (iI ((qn : Int) + 1)) = m1 at *
    have gw : ∀ b, wt m1 b = if b = q then true else wt m b := by
      intro b
      unfold wt
      rw [g90]
      by_cases c : b = q
      · rw [if_pos c, if_pos c]; rfl
      · rw [if_neg c, if_neg c]
    have keep : ∀ j, j < qn → m1.1 89 ((hd + j) % 256) = m.1 89 ((hd + j) % 256) := by
      intro j hj
      rw [g89, if_neg (by omega)]
    have last : m1.1 89 ((hd + qn) % 256) = iI (q : Int) := by rw [g89, if_pos rfl]
    refine h m1 (qn + 1) f4 g6 ⟨g4, g5, ?_, ?_, ?_, ?_⟩ (by omega) keep ?_ ?_
    · have e := fb_ct_upd (wt m) true hq
      rw [wq] at e
      rw [show wt m1 = fun k => if k = q then true else wt m k from funext gw]
      rw [if_neg Bool.false_ne_true, if_pos rfl] at e
      omega
    · intro j hj
      by_cases c : j = qn
      · exact ⟨q, hq, by rw [c]; exact last, by rw [gw, if_pos rfl]⟩
      · obtain ⟨a, h1, h2, h3⟩ := q4 j (by omega)
        refine ⟨a, h1, by rw [keep j (by omega)]; exact h2, ?_⟩
        rw [gw]
        split
        · rfl
        · exact h3
    · intro b hb hw
      by_cases c : b = q
      · exact ⟨qn, by omega, by rw [c]; exact last⟩
      · rw [gw, if_neg c] at hw
        obtain ⟨j, h1, h2⟩ := q5 b hb hw
        exact ⟨j, by omega, by rw [keep j h1]; exact h2⟩
    · intro i j hij hj
      by_cases c : j = qn
      · rw [c, last, keep i (by omega)]
        intro e
        obtain ⟨a, h1, h2, h3⟩ := q4 i (by omega)
        rw [h2] at e
        have := iI_inj (by omega) (by omega) e
        rw [this, wq] at h3
        cases h3
      · rw [keep i (by omega), keep j (by omega)]
        exact q6 i j hij (by omega)
    · intro b hb
      rw [g90, if_neg hb]
    · rw [gw, if_pos rfl]
theorem S_improve (m : am_M) (Q : Option Value → am_M → Prop) (hd qn q : Nat) (hq : q < 256) (hb : hd + qn ≤ 100000) (hQ : QI m hd qn) (v : Int32)
    (h : ∀ m1 qn1, Ag [87, 88, 89, 90] m m1 → m1.1 87 6 = m.1 87 6 → (∀ b, m1.1 88 b = if b = q then v else m.1 88 b) → QI m1 hd qn1 → qn ≤ qn1 → (∀ j, j < qn → m1.1 89 ((hd + j) % 256) = m.1 89 ((hd + j) % 256)) → (∀ b, b ≠ q → m1.1 90 b = m.1 90 b) → wt m1 q = true → Q none m1) : am_WP YL 97 0 0 0 [some (.ref 87), some (.int (iI (q : Int))), some (.int v)] [] m Q := by
  refine B_X8_improve_0 m Q _ _ ?_
  simp (disch := omega) only [iI_lit, iI_lt, iI_le, iI_in, iI_cl, Int.toNat_natCast]
  refine ⟨fun z => by omega, fun _ => ⟨fun z => by omega, fun _ => ⟨by omega, ?_⟩⟩⟩
  have f1 : Ag [87, 88, 89, 90] m (am_pI m 88 q v) := (Ag.rf _ m).pI (by decide) _ _
  have hQ1 : QI (am_pI m 88 q v) hd qn := by
    unfold QI wt at hQ ⊢
    rw [am_pI_ne (by decide), am_pI_ne (by decide), am_pI_ne (by decide)]
    exact hQ
  refine S_push _ _ hd qn q hq hb hQ1 (fun m1 qn1 a1 a2 a3 a4 a5 a6 a7 => B_X8_improve_23 m1 Q (h m1 qn1 (f1.tr (a1.sub (by decide))) ?_ ?_ a3 a4 ?_ ?_ a7))
  · rw [a2, am_pI_ne (by decide)]
  · intro b
    rw [a1.I (by decide), am_pI_at]
  · intro j hj
    rw [a5 j hj, am_pI_ne (by decide)]
  · intro b hb
    rw [a6 b hb, am_pI_ne (by decide)]
theorem S_minutesFrom (m : am_M) (Q : Option Value → am_M → Prop) (q : Nat) (hq : q < 256) (hg : ¬ m.1 87 6 = -1) (h : Q (some (.int (m.1 88 q))) m) : am_WP YL 98 0 0 0 [some (.ref 87), some (.int (iI (q : Int)))] [] m Q := by
  refine B_X8_minutesFrom_0 m Q _ ?_
  rw [iI_cl (by omega) (by omega), Int.toNat_natCast, iI_in (by omega) (by omega), show (0 : Int32) = iI 0 from rfl, show (256 : Int32) = iI 256 from rfl, iI_lt (by omega) (by omega) (by omega) (by omega), iI_le (by omega) (by omega) (by omega) (by omega)]
  exact ⟨fun z => by omega, fun _ => ⟨fun z => by omega, fun _ => ⟨fun z => absurd z hg, fun _ => ⟨by omega, h⟩⟩⟩⟩
/-! the graph of the wood, as the class holds it -/
def WO (m : am_M) : Prop := (∀ k, k < 256 → -1000 ≤ (m.1 5 k).toInt ∧ (m.1 5 k).toInt ≤ 3000) ∧ (∀ k, k < 256 → 0 ≤ (m.1 6 k).toInt ∧ (m.1 6 k).toInt ≤ 60) ∧ (∀ k, k < 256 → wb (m.2.1 8) k = true → 1 ≤ (m.1 6 k).toInt)
theorem WO.h {m : am_M} (h : WO m) : ∀ k, k < 256 → ((m.1 5 k).toInt).natAbs ≤ 3000 := fun k hk => by have := h.1 k hk; omega
def ced (m : am_M) (a b : Nat) : Bool := decide (a < 256) && (wb (m.2.1 8) a && (decide (cbs m a 0 = (b : Int)) || (decide (cbs m a 1 = (b : Int)) || (decide (cbs m a 2 = (b : Int)) || decide (cbs m a 3 = (b : Int))))))
def cwi (m : am_M) (b a : Nat) : Int := (m.1 6 a).toInt + (if 0 < (m.1 5 a).toInt - (m.1 5 b).toInt then ((m.1 5 a).toInt - (m.1 5 b).toInt) / 10 else 0)
def cw (m : am_M) (b a : Nat) : Nat := (cwi m b a).toNat
theorem cbs_b (m : am_M) {a k : Nat} (ha : a < 256) (hk : k < 4) : cbs m a k = -1 ∨ (0 ≤ cbs m a k ∧ cbs m a k < 256 ∧ wb (m.2.1 8) (cbs m a k).toNat = true) := by
  unfold cbs
  dsimp only
  by_cases c : cth m ((a : Int) / 16 + (if k = 0 then -1 else if k = 3 then 1 else 0)) ((a : Int) % 16 + (if k = 1 then -1 else if k = 2 then 1 else 0)) = true
  · rw [if_pos c]
    unfold cth at c
    have c := of_decide_eq_true c
    right
    exact ⟨by omega, by omega, c.2.2.2.2⟩
  · rw [if_neg c]
    exact Or.inl rfl
theorem ced_k (m : am_M) {a b : Nat} (h : ced m a b = true) : a < 256 ∧ wb (m.2.1 8) a = true ∧ ∃ k, k < 4 ∧ cbs m a k = (b : Int) := by
  unfold ced at h
  obtain ⟨h1, h⟩ := Bool.and_eq_true_iff.mp h
  obtain ⟨h2, h⟩ := Bool.and_eq_true_iff.mp h
  refine ⟨of_decide_eq_true h1, h2, ?_⟩
  rcases Bool.or_eq_true_iff.mp h with h | h
  · exact ⟨0, by decide, of_decide_eq_true h⟩
  · rcases Bool.or_eq_true_iff.mp h with h | h
    · exact ⟨1, by decide, of_decide_eq_true h⟩
    · rcases Bool.or_eq_true_iff.mp h with h | h
      · exact ⟨2, by decide, of_decide_eq_true h⟩
      · exact ⟨3, by decide, of_decide_eq_true h⟩
theorem ced_of (m : am_M) {a b k : Nat} (ha : a < 256) (ht : wb (m.2.1 8) a = true) (hk : k < 4) (h : cbs m a k = (b : Int)) : ced m a b = true := by
  unfold ced
  rw [decide_eq_true ha, ht]
  match k, hk, h with
  | 0, _, h => rw [decide_eq_true h]; rfl
  | 1, _, h => rw [decide_eq_true h]; cases decide (cbs m a 0 = (b : Int)) <;> rfl
  | 2, _, h => rw [decide_eq_true h]; cases decide (cbs m a 0 = (b : Int)) <;> cases decide (cbs m a 1 = (b : Int)) <;> rfl
  | 3, _, h => rw [decide_eq_true h]; cases decide (cbs m a 0 = (b : Int)) <;> cases decide (cbs m a 1 = (b : Int)) <;> cases decide (cbs m a 2 = (b : Int)) <;> rfl
theorem cwi_b {m : am_M} (hW : WO m) {a b : Nat} (ha : a < 256) (hb : b < 256) : 0 ≤ cwi m b a ∧ cwi m b a ≤ 460 ∧ (wb (m.2.1 8) a = true → 1 ≤ cwi m b a) := by
  have h1 := hW.1 a ha
  have h2 := hW.1 b hb
  have h3 := hW.2.1 a ha
  have h4 := hW.2.2 a ha
  unfold cwi
  split
  · exact ⟨by omega, by omega, fun z => by have := h4 z; omega⟩
  · exact ⟨by omega, by omega, fun z => by have := h4 z; omega⟩
theorem cgr {m : am_M} (hW : WO m) : gr (ced m) (cw m) := by
  intro a b h
  obtain ⟨h1, h2, k, h3, h4⟩ := ced_k m h
  have hb := cbs_b m h1 h3
  have hb2 : b < 256 := by omega
  have := cwi_b hW h1 hb2
  refine ⟨h1, hb2, ?_, ?_⟩
  · have := this.2.2 h2
    unfold cw
    omega
  · unfold cw
    omega
def lv (m : am_M) (q : Nat) : Nat := if m.1 88 q = -1 then 1000000000 else (m.1 88 q).toInt.toNat
/-- the table's words are good ones below B -/
def LB (m : am_M) (B : Nat) : Prop := ∀ q, q < 256 → m.1 88 q = -1 ∨ (0 ≤ (m.1 88 q).toInt ∧ (m.1 88 q).toInt ≤ (B : Int))
theorem lv_n {m : am_M} {q : Nat} (h : m.1 88 q = -1) : lv m q = 1000000000 := if_pos h
theorem lv_v {m : am_M} {B q : Nat} (hL : LB m B) (hB : B < 1000000000) (hq : q < 256) (h : ¬ m.1 88 q = -1) : m.1 88 q = iI (lv m q : Int) ∧ lv m q ≤ B := by
  unfold lv
  rw [if_neg h]
  have := (hL q hq).resolve_left h
  refine ⟨?_, by omega⟩
  rw [Int.toNat_of_nonneg this.1, iI_self]
theorem lvv_lt {m : am_M} {B q : Nat} (hL : LB m B) (hB : B < 1000000000) (hq : q < 256) : lv m q < 1000000000 ↔ ¬ m.1 88 q = -1 := by
  constructor
  · intro h z
    rw [lv_n z] at h
    omega
  · intro h
    have := lv_v hL hB hq h
    omega
/-- what relaxing the sides below k of the square a does -/
def RI (m0 m1 : am_M) (a hd qn qn1 k : Nat) : Prop := Ag [87, 88, 89, 90] m0 m1 ∧ m1.1 87 6 = m0.1 87 6 ∧ QI m1 hd qn1 ∧ qn ≤ qn1 ∧ (∀ j, j < qn → m1.1 89 ((hd + j) % 256) = m0.1 89 ((hd + j) % 256)) ∧
  (∀ b, b < 256 → (m1.1 88 b = m0.1 88 b ∧ m1.1 90 b = m0.1 90 b) ∨ (ced m0 a b = true ∧ m1.1 88 b = iI ((lv m0 a + cw m0 b a : Nat) : Int) ∧ lv m0 a + cw m0 b a < lv m0 b ∧ wt m1 b = true)) ∧
  (∀ j, j < k → ∀ b : Nat, cbs m0 a j = (b : Int) → lv m1 b ≤ lv m0 a + cw m0 b a) ∧ (qn1 = qn ∨ ∃ b, b < 256 ∧ ced m0 a b = true ∧ lv m0 a + cw m0 b a < lv m0 b)
theorem ced_fr {m m1 : am_M} (h8 : m1.2.1 8 = m.2.1 8) (a b : Nat) : ced m1 a b = ced m a b := by
  unfold ced cbs cth
  rw [h8]
theorem cbs_fr {m m1 : am_M} (h8 : m1.2.1 8 = m.2.1 8) (a k : Nat) : cbs m1 a k = cbs m a k := by
  unfold cbs cth
  rw [h8]
theorem cwi_fr {m m1 : am_M} (h5 : m1.1 5 = m.1 5) (h6 : m1.1 6 = m.1 6) (a b : Nat) : cwi m1 a b = cwi m a b := by
  unfold cwi
  rw [h5, h6]
theorem cw_fr {m m1 : am_M} (h5 : m1.1 5 = m.1 5) (h6 : m1.1 6 = m.1 6) (a b : Nat) : cw m1 a b = cw m a b := by
  unfold cw
  rw [cwi_fr h5 h6]
theorem cbs_ne (m : am_M) {a k : Nat} (ha : a < 256) (hk : k < 4) : cbs m a k ≠ (a : Int) := by
  unfold cbs
  dsimp only
  split
  · match k, hk with
    | 0, _ => simp; omega
    | 1, _ => simp; omega
    | 2, _ => simp; omega
    | 3, _ => simp; omega
  · omega
theorem S_relax (m : am_M) (Q : Option Value → am_M → Prop) (hW : WO m) (B hd qn a : Nat) (ha : a < 256) (hta : wb (m.2.1 8) a = true) (hb : hd + qn + 4 ≤ 99000) (hQ : QI m hd qn) (hL : LB m B) (hB : B < 900000000) (hva : ¬ m.1 88 a = -1) (hg : ¬ m.1 87 6 = -1)
    (h : ∀ m1 qn1, RI m m1 a hd qn qn1 4 → Q none m1) : am_WP YL 96 0 0 0 [some (.ref 87), some (.int (iI (a : Int))), none, none, none, none] [] m Q := by
  refine B_X8_relax_0 m Q _ ?_
  have hla := lv_v hL (by omega) ha hva
  have := lp (N := 4) (W := fun k (s : am_M × Nat) => am_WP YL 96 0 0 2 [some (.ref 87), some (.int (iI (a : Int))), some (.int (iI (k : Int))), none, none, none] [] s.1 Q) (fun k s => RI m s.1 a hd qn s.2 k ∧ s.2 ≤ qn + k) (s := (m, qn)) ⟨⟨Ag.rf _ m, rfl, hQ, Nat.le_refl _, fun _ _ => rfl, fun b _ => Or.inl ⟨rfl, rfl⟩, fun j hj => absurd hj (Nat.not_lt_zero j), Or.inl rfl⟩, Nat.le_refl _⟩ ?_ ?_
  · exact this
  · rintro k ⟨m1, qn1⟩ hk ⟨⟨r1, r2, r3, r4, r5, r6, r7, r8⟩, rb⟩ ih
    dsimp only at r1 r2 r3 r4 r5 r6 r7 r8 rb ih ⊢
    have e8 : m1.2.1 8 = m.2.1 8 := r1.J (by decide)
    have e5 : m1.1 5 = m.1 5 := r1.I (by decide)
    have e6 : m1.1 6 = m.1 6 := r1.I (by decide)
    refine B_X8_relax_2 m1 Q _ _ ⟨fun z => absurd ((iI_le (a := 4) (by omega) (by omega) (by omega) (by omega)).mp z) (by omega), fun _ => S_beside m1 _ a k ha hk ?_⟩
    rw [cbs_fr e8]
    have hcb := cbs_b m ha hk
    refine B_X8_relax_16 m1 Q _ _ _ ?_
    rw [show (-1 : Int32) = iI (-1) from rfl, iI_eq (by omega) (by omega) (by omega) (by omega), iI_i1]
    refine ⟨fun z => ?_, fun z => ?_⟩
    · refine ih (m1, qn1) ⟨⟨r1, r2, r3, r4, r5, r6, fun j hj b hbj => ?_, r8⟩, by omega⟩
      by_cases c : j = k
      · rw [c, z] at hbj
        omega
      · exact r7 j (by omega) b hbj
    · have hcb := hcb.resolve_left z
      obtain ⟨b, hbe⟩ : ∃ b : Nat, cbs m a k = (b : Int) := ⟨(cbs m a k).toNat, by omega⟩
      rw [hbe] at hcb ⊢
      have hb2 : b < 256 := by omega
      have hne : b ≠ a := fun e => cbs_ne m ha hk (by rw [hbe, e])
      have hed : ced m a b = true := ced_of m ha hta hk hbe
      -- the square's own word stays
      have hwn : ∀ c : Nat, ced m a c = true → ¬ (lv m a + cw m c a < lv m c) ∨ c ≠ a := by
        intro c _
        by_cases e : c = a
        · left
          rw [e]
          omega
        · exact Or.inr e
      have va1 : m1.1 88 a = m.1 88 a := by
        rcases r6 a ha with y | y
        · exact y.1
        · have := y.2.2.1
          omega
      have wb1 := cwi_b hW ha hb2
      have ecw : (cw m b a : Int) = cwi m b a := by unfold cw; omega
      refine S_minutesFrom m1 _ a ha (by rw [r2]; exact hg) (B_X8_relax_27 m1 Q _ _ _ _ ?_)
      rw [va1, hla.1]
      refine S_stepCost m1 _ b a hb2 ha (by rw [e5]; exact hW.h) (B_X8_relax_36 m1 Q _ _ _ _ _ ?_)
      have ecs : (m1.1 6 a).toInt + (if 0 < (m1.1 5 a).toInt - (m1.1 5 b).toInt then ((m1.1 5 a).toInt - (m1.1 5 b).toInt) / 10 else 0) = (cw m b a : Int) := by
        rw [ecw, ← cwi_fr e5 e6]
        rfl
      rw [ecs, iI_add, show ((lv m a : Nat) : Int) + ((cw m b a : Nat) : Int) = ((lv m a + cw m b a : Nat) : Int) from rfl]
      refine S_minutesFrom m1 _ b hb2 (by rw [r2]; exact hg) (B_X8_relax_44 m1 Q _ _ _ _ _ ?_)
      have cwb : cw m b a ≤ 460 := by omega
      -- the word of b now
      have imp : lv m a + cw m b a < lv m b → am_WP YL 97 0 0 0 [some (.ref 87), some (.int (iI (b : Int))), some (.int (iI ((lv m a + cw m b a : Nat) : Int)))] [] m1 (fun r1 m1 => am_WP YL 96 0 0 66 [some (.ref 87), some (.int (iI (a : Int))), some (.int (iI (k : Int))), none, none, none] (am_pu r1 []) m1 Q) := by
        intro hlt
        refine S_improve m1 _ hd qn1 b hb2 (by omega) r3 _ (fun m2 qn2 a1 a2 a3 a4 a5 a6 a7 a8 => B_X8_relax_66 m2 Q _ _ ?_)
        rw [iI_i1]
        have nl : lv m2 b = lv m a + cw m b a := by
          unfold lv
          rw [a3 b, if_pos rfl]
          have ne : ¬ iI ((lv m a + cw m b a : Nat) : Int) = (-1 : Int32) := fun e => by
            have := (iI_eq (b := -1) (by omega) (by omega) (by omega) (by omega)).mp e
            omega
          rw [if_neg ne, iI_to (by omega) (by omega), Int.toNat_natCast]
          rfl
        have cwb2 : ∀ b' : Nat, cbs m a k = (b' : Int) → b' = b := fun b' e => by rw [hbe] at e; omega
        refine ih (m2, qn2) ⟨⟨r1.tr a1, a2.trans r2, a4, by omega, fun j hj => (a6 j (by omega)).trans (r5 j hj), fun c hc => ?_, fun j hj b' hbj => ?_, Or.inr ⟨b, hb2, hed, hlt⟩⟩, ?_⟩
        · by_cases e : c = b
          · rw [e]
            exact Or.inr ⟨hed, by rw [a3, if_pos rfl], hlt, a8⟩
          · rcases r6 c hc with y | y
            · exact Or.inl ⟨by rw [a3, if_neg e]; exact y.1, (a7 c e).trans y.2⟩
            · refine Or.inr ⟨y.1, by rw [a3, if_neg e]; exact y.2.1, y.2.2.1, ?_⟩
              have := y.2.2.2
              unfold wt at this ⊢
              rw [a7 c e]
              exact this
        · by_cases c : j = k
          · rw [c] at hbj
            rw [cwb2 b' hbj, nl]
            exact Nat.le_refl _
          · by_cases e : b' = b
            · rw [e, nl]
              exact Nat.le_refl _
            · have := r7 j (by omega) b' hbj
              unfold lv at this ⊢
              rw [a3, if_neg e]
              exact this
        · dsimp only
          have w1 := r3.2.2.1
          have w2 := a4.2.2.1
          by_cases cw0 : wt m1 b = true
          · have : fb_ct (wt m2) 256 = fb_ct (wt m1) 256 := by
              apply fb_ct_cong
              intro x _
              by_cases e : x = b
              · rw [e, a8, cw0]
              · unfold wt
                rw [a7 x e]
            omega
          · have cw0 : wt m1 b = false := by cases hp : wt m1 b; rfl; exact absurd hp cw0
            have e := fb_ct_upd (wt m1) true hb2
            rw [cw0] at e
            have e2 : wt m2 = fun x => if x = b then true else wt m1 x := by
              funext x
              by_cases e : x = b
              · rw [if_pos e, e, a8]
              · rw [if_neg e]
                unfold wt
                rw [a7 x e]
            rw [← e2] at e
            rw [if_neg Bool.false_ne_true, if_pos rfl] at e
            omega
      have skip : lv m1 b ≤ lv m a + cw m b a → am_WP YL 96 0 0 2 [some (.ref 87), some (.int (iI (a : Int))), some (.int (iI ((k : Int) + 1))), none, none, none] [] m1 Q := by
        intro hle
        refine ih (m1, qn1) ⟨⟨r1, r2, r3, r4, r5, r6, fun j hj b' hbj => ?_, r8⟩, by omega⟩
        by_cases c : j = k
        · rw [c, hbe] at hbj
          have : b' = b := by omega
          rw [this]
          exact hle
        · exact r7 j (by omega) b' hbj
      rcases r6 b hb2 with y | y
      · rw [y.1]
        refine ⟨fun x => imp ?_, fun x => ?_⟩
        · rw [lv_n x]
          omega
        · have lb := lv_v hL (by omega) hb2 x
          rw [lb.1, iI_le (by omega) (by omega) (by omega) (by omega), iI_i1]
          refine ⟨fun w => skip ?_, fun w => imp (by omega)⟩
          have : lv m1 b = lv m b := by unfold lv; rw [y.1]
          omega
      · have le1 : lv m a + cw m b a < 1000000000 := by omega
        rw [y.2.1]
        have nl : lv m1 b = lv m a + cw m b a := by
          unfold lv
          rw [y.2.1]
          have ne : ¬ iI ((lv m a + cw m b a : Nat) : Int) = (-1 : Int32) := fun e => by
            have := (iI_eq (b := -1) (by omega) (by omega) (by omega) (by omega)).mp e
            omega
          rw [if_neg ne, iI_to (by omega) (by omega), Int.toNat_natCast]
          rfl
        rw [iI_i1]
        refine ⟨fun x => absurd ((iI_eq (b := -1) (by omega) (by omega) (by omega) (by omega)).mp x) (by omega), fun _ => ⟨fun _ => skip (by omega), fun w => absurd ((iI_le (by omega) (by omega) (by omega) (by omega)).mpr (Int.le_refl _)) w⟩⟩
  · rintro ⟨m1, qn1⟩ ⟨hR, _⟩
    exact B_X8_relax_2 m1 Q _ _ ⟨fun _ => h m1 qn1 hR, fun z => absurd (show (4 : Int32) ≤ iI ((4 : Nat) : Int) by decide) z⟩
