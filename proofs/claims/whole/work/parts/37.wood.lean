/-! ===== the wood ===== -/
theorem pbd {a b : Int} {A B : Nat} (ha : a.natAbs ≤ A) (hb : b.natAbs ≤ B) : (a * b).natAbs ≤ A * B := by
  rw [Int.natAbs_mul]
  exact Nat.mul_le_mul ha hb
theorem iI_ite {c : Prop} [Decidable c] (a b : Int) : (if c then iI a else iI b) = iI (if c then a else b) := by
  by_cases h : c
  · rw [if_pos h, if_pos h]
  · rw [if_neg h, if_neg h]
/-- a square in a direction -/
def icone (f q : Nat) (dn rt sd : Int) : Bool := decide (0 < ((q : Int) / 16 - (f : Int) / 16) * dn + ((q : Int) % 16 - (f : Int) % 16) * rt ∧ 100 * (if 0 ≤ ((q : Int) / 16 - (f : Int) / 16) * rt - ((q : Int) % 16 - (f : Int) % 16) * dn then ((q : Int) / 16 - (f : Int) / 16) * rt - ((q : Int) % 16 - (f : Int) % 16) * dn else 0 - (((q : Int) / 16 - (f : Int) / 16) * rt - ((q : Int) % 16 - (f : Int) % 16) * dn)) ≤ sd * (((q : Int) / 16 - (f : Int) / 16) * dn + ((q : Int) % 16 - (f : Int) % 16) * rt))
theorem S_isInCone (m : am_M) (Q : Option Value → am_M → Prop) (f q : Nat) (hf : f < 256) (hq : q < 256) (dn rt sd : Int) (h1 : dn.natAbs ≤ 50) (h2 : rt.natAbs ≤ 50) (h3 : sd.natAbs ≤ 400) (h : Q (some (.int (bI (icone f q dn rt sd)))) m) : am_WP YL 112 0 0 0 [some (.int (iI (f : Int))), some (.int (iI (q : Int))), some (.int (iI dn)), some (.int (iI rt)), some (.int (iI sd)), none, none, none, none] [] m Q := by
  refine B_X9_isInCone_0 m Q _ _ _ _ _ ?_
  unfold icone at h
  have v1 : ((q : Int) / 16 - (f : Int) / 16).natAbs ≤ 15 := by omega
  have w1 : ((q : Int) % 16 - (f : Int) % 16).natAbs ≤ 15 := by omega
  have b1 := pbd v1 h1
  have b2 := pbd w1 h2
  have b3 := pbd v1 h2
  have b4 := pbd w1 h1
  have b5 : (sd * (((q : Int) / 16 - (f : Int) / 16) * dn + ((q : Int) % 16 - (f : Int) % 16) * rt)).natAbs ≤ 400 * 1500 := pbd h3 (by omega)
  simp (disch := omega) only [iI_lit, iI_ofNat, iI_neg, iI_add, iI_sub, iI_mul, iI_lt, iI_le, iI_eq, iI_in, iI_cl, iI_s4, iI_m15, iI_ite]
  generalize ((q : Int) / 16 - (f : Int) / 16) * dn + ((q : Int) % 16 - (f : Int) % 16) * rt = al at h b5 ⊢
  have b6 : (if 0 ≤ ((q : Int) / 16 - (f : Int) / 16) * rt - ((q : Int) % 16 - (f : Int) % 16) * dn then ((q : Int) / 16 - (f : Int) / 16) * rt - ((q : Int) % 16 - (f : Int) % 16) * dn else 0 - (((q : Int) / 16 - (f : Int) / 16) * rt - ((q : Int) % 16 - (f : Int) % 16) * dn)).natAbs ≤ 1500 := by
    by_cases hc : 0 ≤ ((q : Int) / 16 - (f : Int) / 16) * rt - ((q : Int) % 16 - (f : Int) % 16) * dn
    · rw [if_pos hc]; omega
    · rw [if_neg hc]; omega
  generalize (if 0 ≤ ((q : Int) / 16 - (f : Int) / 16) * rt - ((q : Int) % 16 - (f : Int) % 16) * dn then ((q : Int) / 16 - (f : Int) / 16) * rt - ((q : Int) % 16 - (f : Int) % 16) * dn else 0 - (((q : Int) / 16 - (f : Int) / 16) * rt - ((q : Int) % 16 - (f : Int) % 16) * dn)) = ac at h b6 ⊢
  refine ⟨fun z => ?_, fun z => ⟨fun w => ?_, fun w => ?_⟩⟩
  · rw [decide_eq_false (by omega)] at h
    exact h
  · rw [decide_eq_false (by omega)] at h
    exact h
  · rw [decide_eq_true (by omega)] at h
    exact h
theorem S_shape (m : am_M) (Q : Option Value → am_M → Prop) (q : Nat) (hq : q < 256) (x y : Int32) (h : Q none (am_pI (am_pI m 5 q x) 6 q y)) : am_WP YL 103 0 0 0 [some (.ref 4), some (.int (iI (q : Int))), some (.int x), some (.int y)] [] m Q := by
  refine B_X9_shape_0 m Q _ _ _ ?_
  simp (disch := omega) only [iI_lit, iI_ofNat, iI_neg, iI_add, iI_sub, iI_mul, iI_lt, iI_le, iI_eq, iI_in, iI_cl, Int.toNat_natCast]
  exact ⟨fun _ => by omega, fun _ => ⟨fun _ => by omega, fun _ => ⟨by omega, by omega, h⟩⟩⟩
theorem S_heightOf (m : am_M) (Q : Option Value → am_M → Prop) (q : Nat) (hq : q < 256) (h : Q (some (.int (m.1 5 q))) m) : am_WP YL 106 0 0 0 [some (.ref 4), some (.int (iI (q : Int)))] [] m Q := by
  refine B_X9_heightOf_0 m Q _ ?_
  simp (disch := omega) only [iI_lit, iI_ofNat, iI_neg, iI_add, iI_sub, iI_mul, iI_lt, iI_le, iI_eq, iI_in, iI_cl, Int.toNat_natCast]
  exact ⟨fun _ => by omega, fun _ => ⟨fun _ => by omega, fun _ => ⟨by omega, h⟩⟩⟩
/-- the class's squares -/
def cth (m : am_M) (r c : Int) : Bool := decide (0 ≤ r ∧ r ≤ 15 ∧ 0 ≤ c ∧ c ≤ 15 ∧ wb (m.2.1 8) (16 * r + c).toNat = true)
theorem sq_7 (m : am_M) : sw_sq m 7 := ⟨rfl, rfl, rfl, rfl⟩
theorem S_numberOf (m : am_M) (Q : Option Value → am_M → Prop) (r c : Int) (h1 : -2147483648 ≤ r) (h2 : r ≤ 2147483647) (h3 : -2147483648 ≤ c) (h4 : c ≤ 2147483647) (h : Q (some (.int (iI (if cth m r c then 16 * r + c else -1)))) m) : am_WP YL 105 0 0 0 [some (.ref 4), some (.int (iI r)), some (.int (iI c)), none] [] m Q := by
  refine B_X9_numberOf_0 m Q _ _ ?_
  unfold cth at h
  have hno : (¬ (0 ≤ r ∧ r ≤ 15 ∧ 0 ≤ c ∧ c ≤ 15)) → Q (some (.int (iI (-1)))) m := by
    intro z
    rw [decide_eq_false (fun w => z ⟨w.1, w.2.1, w.2.2.1, w.2.2.2.1⟩)] at h
    exact h
  simp (disch := omega) only [iI_lit, iI_neg, iI_lt, iI_le]
  refine ⟨fun z => hno (by omega), fun z => ⟨fun z => hno (by omega), fun z => ⟨fun z => hno (by omega), fun z => ⟨fun z => ?_, fun z => hno (by omega)⟩⟩⟩⟩
  simp (disch := omega) only [iI_mul, iI_add]
  obtain ⟨k, hk⟩ : ∃ k : Nat, 16 * r + c = (k : Int) := ⟨(16 * r + c).toNat, by omega⟩
  rw [hk] at h ⊢
  rw [Int.toNat_natCast] at h
  refine S_has m _ 7 (sq_7 m) k (by omega) ?_
  refine B_X9_numberOf_37 m Q _ _ ?_
  simp only [iI_lit, bI_i0]
  show (wb (m.2.1 8) k = false → _) ∧ _
  cases hb : wb (m.2.1 8) k
  · rw [hb, decide_eq_false (fun w => by cases w.2.2.2.2)] at h
    exact ⟨fun _ => h, fun z => absurd rfl z⟩
  · rw [hb, decide_eq_true ⟨by omega, by omega, by omega, by omega, rfl⟩] at h
    exact ⟨fun z => (by cases z), fun _ => h⟩
theorem S_stepCost (m : am_M) (Q : Option Value → am_M → Prop) (p q : Nat) (hp : p < 256) (hq : q < 256) (hh : ∀ k, k < 256 → ((m.1 5 k).toInt).natAbs ≤ 3000) (h : Q (some (.int (iI ((m.1 6 q).toInt + (if 0 < (m.1 5 q).toInt - (m.1 5 p).toInt then ((m.1 5 q).toInt - (m.1 5 p).toInt) / 10 else 0))))) m) : am_WP YL 107 0 0 0 [some (.ref 4), some (.int (iI (p : Int))), some (.int (iI (q : Int))), none, none] [] m Q := by
  refine B_X9_stepCost_0 m Q _ _ ?_
  have h5 := hh p hp
  have h6 := hh q hq
  simp (disch := omega) only [iI_lit, iI_ofNat, iI_neg, iI_add, iI_sub, iI_mul, iI_lt, iI_le, iI_eq, iI_in, iI_cl, Int.toNat_natCast]
  refine ⟨fun _ => by omega, fun _ => ⟨fun _ => by omega, fun _ => ⟨by omega, ?_⟩⟩⟩
  refine S_heightOf m _ q hq ?_
  refine B_X9_stepCost_27 m Q _ _ _ (S_heightOf m _ p hp ?_)
  refine B_X9_stepCost_32 m Q _ _ _ ?_
  rw [← iI_self (m.1 5 q), ← iI_self (m.1 5 p), ← iI_self (m.1 6 q)]
  simp (disch := omega) only [iI_lit, iI_ofNat, iI_neg, iI_add, iI_sub, iI_mul, iI_lt, iI_le, iI_eq, iI_in, iI_cl]
  refine ⟨fun z => ?_, fun z => ?_⟩
  · rw [if_neg (by omega), Int.add_zero] at h
    exact h
  · rw [if_pos (by omega)] at h
    simp (disch := omega) only [iI_div, iI_add]
    exact h
/-- the square beside -/
def cbs (m : am_M) (q : Nat) (k : Nat) : Int :=
  let r : Int := (q : Int) / 16 + (if k = 0 then -1 else if k = 3 then 1 else 0)
  let c : Int := (q : Int) % 16 + (if k = 1 then -1 else if k = 2 then 1 else 0)
  if cth m r c then 16 * r + c else -1
theorem S_beside (m : am_M) (Q : Option Value → am_M → Prop) (q k : Nat) (hq : q < 256) (hk : k < 4) (h : Q (some (.int (iI (cbs m q k)))) m) : am_WP YL 108 0 0 0 [some (.ref 4), some (.int (iI (q : Int))), some (.int (iI (k : Int))), none, none] [] m Q := by
  refine B_X9_beside_0 m Q _ _ ?_
  unfold cbs at h
  dsimp only at h
  simp (disch := omega) only [iI_lit, iI_s4, iI_m15, iI_add, iI_sub, iI_to]
  refine ⟨fun z => ?_, fun z => ?_, fun z => ?_, fun z => ?_⟩
  · obtain rfl : k = 3 := by omega
    refine S_numberOf m _ _ _ (by omega) (by omega) (by omega) (by omega) (B_X9_beside_75 m Q _ ?_)
    exact h
  · obtain rfl : k = 0 := by omega
    refine S_numberOf m _ _ _ (by omega) (by omega) (by omega) (by omega) (B_X9_beside_45 m Q _ ?_)
    exact h
  · obtain rfl : k = 1 := by omega
    refine S_numberOf m _ _ _ (by omega) (by omega) (by omega) (by omega) (B_X9_beside_55 m Q _ ?_)
    exact h
  · obtain rfl : k = 2 := by omega
    refine S_numberOf m _ _ _ (by omega) (by omega) (by omega) (by omega) (B_X9_beside_65 m Q _ ?_)
    exact h
