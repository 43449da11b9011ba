/-! ===== which fires a sighting fits ===== -/
theorem iI_tb {a k : Nat} (ha : a < 2147483648) (hk : k < 31) : ((iI (a : Int) >>> (iI (k : Int) &&& 31)) &&& 1) = 0 ↔ a.testBit k = false := by
  have e : ((iI (a : Int) >>> (iI (k : Int) &&& iI 31)) &&& iI 1) = iI (((a / 2 ^ k % 2 : Nat)) : Int) := iI_bit (by omega) (by omega) (by omega)
  have e2 : ((iI (a : Int) >>> (iI (k : Int) &&& 31)) &&& 1) = iI (((a / 2 ^ k % 2 : Nat)) : Int) := e
  have b : a / 2 ^ k % 2 < 2 := Nat.mod_lt _ (by decide)
  rw [e2, show (0 : Int32) = iI 0 from rfl, iI_eq (by omega) (by omega) (by omega) (by omega), Nat.testBit_eq_decide_div_mod_eq]
  constructor
  · intro h
    exact decide_eq_false (by omega)
  · intro h
    have := of_decide_eq_false h
    omega
theorem iI_sh1 {k : Nat} (hk : k < 31) : (1 : Int32) <<< (iI (k : Int) &&& 31) = iI ((2 ^ k : Nat) : Int) := by
  have e : iI ((1 : Nat) : Int) <<< (iI (k : Int) &&& iI 31) = iI ((1 * 2 ^ k : Nat) : Int) := iI_shl (by omega)
  rw [Nat.one_mul] at e
  exact e
def fmk (p : Nat → Bool) : Nat → Nat
  | 0 => 0
  | n + 1 => if p n = true then fmk p n ||| 2 ^ n else fmk p n
theorem fmk_lt (p : Nat → Bool) : ∀ n, fmk p n < 2 ^ n
  | 0 => Nat.one_pos
  | n + 1 => by
    have h := fmk_lt p n
    have h2 : 2 ^ n < 2 ^ (n + 1) := Nat.pow_lt_pow_right (by decide) (Nat.lt_succ_self n)
    show (if p n = true then fmk p n ||| 2 ^ n else fmk p n) < 2 ^ (n + 1)
    split
    · exact Nat.or_lt_two_pow (by omega) h2
    · omega
theorem fmk_tb (p : Nat → Bool) (k : Nat) : ∀ n, (fmk p n).testBit k = (decide (k < n) && p k)
  | 0 => by
    show Nat.testBit 0 k = _
    rw [Nat.zero_testBit, decide_eq_false (Nat.not_lt_zero k), Bool.false_and]
  | n + 1 => by
    have h := fmk_tb p k n
    show (if p n = true then fmk p n ||| 2 ^ n else fmk p n).testBit k = _
    by_cases c : p n = true
    · rw [if_pos c, Nat.testBit_or, h, Nat.testBit_two_pow]
      by_cases e : n = k
      · subst e
        rw [decide_eq_true rfl, Bool.or_true, decide_eq_true (Nat.lt_succ_self n), c]
        rfl
      · rw [decide_eq_false e, Bool.or_false, show decide (k < n + 1) = decide (k < n) from decide_eq_decide.mpr (by omega)]
    · rw [if_neg c, h]
      by_cases e : n = k
      · subst e
        have c : p n = false := by cases hp : p n; rfl; exact absurd hp c
        rw [c, Bool.and_false, Bool.and_false]
      · rw [show decide (k < n + 1) = decide (k < n) from decide_eq_decide.mpr (by omega)]
theorem fmk_0 (n : Nat) : fmk (fun _ => false) n = 0 := by
  induction n with
  | zero => rfl
  | succ n ih => exact ih
theorem fmk_cong {p q : Nat → Bool} : ∀ n, (∀ k, k < n → p k = q k) → fmk p n = fmk q n
  | 0, _ => rfl
  | n + 1, h => by
    show (if p n = true then _ else _) = (if q n = true then _ else _)
    rw [h n (Nat.lt_succ_self n), fmk_cong n (fun k hk => h k (by omega))]
def cck (m : am_M) (e k : Nat) : Bool := !decide (m.1 36 k = -1) && (match am_gR YL m 35 k with | none => false | some o => ecl m o e)
def jf (m : am_M) (k : Nat) : Nat := (m.1 36 k).toInt.toNat
def ckm (m : am_M) (e : Nat) : Nat → Nat
  | 0 => 0
  | k + 1 => if cck m e k = true then ckm m e k ||| 2 ^ jf m k else ckm m e k
def cbt (m : am_M) (e f : Nat) : Nat → Bool
  | 0 => false
  | k + 1 => cbt m e f k || (cck m e k && decide (jf m k = f))
def JB (m : am_M) : Prop := ∀ k, k < 60 → m.1 36 k = -1 ∨ (0 ≤ (m.1 36 k).toInt ∧ (m.1 36 k).toInt < 20)
theorem ckm_lt {m : am_M} (hJ : JB m) (e : Nat) : ∀ k, k ≤ 60 → ckm m e k < 2 ^ 20
  | 0, _ => by show 0 < 2 ^ 20; decide
  | k + 1, hk => by
    have h := ckm_lt hJ e k (by omega)
    show (if cck m e k = true then ckm m e k ||| 2 ^ jf m k else ckm m e k) < 2 ^ 20
    split
    · rename_i c
      have c1 : ¬ m.1 36 k = -1 := by
        have := (Bool.and_eq_true_iff.mp c).1
        intro z
        rw [decide_eq_true z] at this
        cases this
      have b : jf m k < 20 := by
        rcases hJ k (by omega) with z | z
        · exact absurd z c1
        · unfold jf
          omega
      exact Nat.or_lt_two_pow h (Nat.pow_lt_pow_right (by decide) b)
    · exact h
theorem ckm_tb (m : am_M) (e f : Nat) : ∀ k, (ckm m e k).testBit f = cbt m e f k
  | 0 => Nat.zero_testBit f
  | k + 1 => by
    have h := ckm_tb m e f k
    show (if cck m e k = true then ckm m e k ||| 2 ^ jf m k else ckm m e k).testBit f = (cbt m e f k || (cck m e k && decide (jf m k = f)))
    by_cases c : cck m e k = true
    · rw [if_pos c, Nat.testBit_or, h, Nat.testBit_two_pow, c, Bool.true_and]
    · have c2 : cck m e k = false := by cases hp : cck m e k; rfl; exact absurd hp c
      rw [if_neg c, h, c2, Bool.false_and, Bool.or_false]
theorem S_clashing (m : am_M) (Q : Option Value → am_M → Prop) (hB : BK m) (hJ : JB m) (i : Int) (hbi : -2147483648 ≤ i ∧ i ≤ 2147483647) (e : Nat) (he : cent m i = some e) (h : Q (some (.int (iI (ckm m e 60 : Int)))) m) : am_WP YL 34 0 0 0 [some (.ref 38), some (.int (iI i)), none, none, none, none, none] [] m Q := by
  have hen := (cent_ok hB he).1
  refine B_X2_clashing_0 m Q _ (S_entryAt m _ hB i hbi ?_)
  rw [he]
  refine B_X2_clashing_8r m Q e hen ?_
  have := lp (N := 60) (W := fun k (_ : Unit) => am_WP YL 34 0 0 14 [some (.ref 38), none, some (.ref e), some (.int (iI (ckm m e k : Int))), some (.int (iI (k : Int))), none, none] [] m Q) (fun _ _ => True) (s := ()) trivial ?_ ?_
  · exact this
  · intro k _ hk _ ih
    have ih := ih () trivial
    have hlt := ckm_lt hJ e k (by omega)
    refine B_X2_clashing_14 m Q e hen _ _ ⟨fun z => absurd ((iI_le (a := 60) (by omega) (by omega) (by omega) (by omega)).mp z) (by omega), fun _ => ?_⟩
    refine S_entryAt m _ hB k (by omega) ?_
    rw [cent_n m hk]
    cases hr : am_gR YL m 35 k with
    | none =>
      have ec : cck m e k = false := by unfold cck; rw [hr, Bool.and_false]
      have ek : ckm m e (k + 1) = ckm m e k := if_neg (by rw [ec]; decide)
      rw [ek] at ih
      refine B_X2_clashing_30n m Q e hen _ _ (S_fireOf m _ k (by omega) (D_X2_clashing_41z m Q e hen _ _ _ ?_))
      rw [iI_i1]
      exact ⟨fun _ => ih, fun _ => ih⟩
    | some o =>
      have hon := (hB k hk o hr).1
      refine B_X2_clashing_30r m Q e hen _ _ o hon (S_fireOf m _ k (by omega) (B_X2_clashing_41 m Q e hen _ _ o hon _ ?_))
      rw [cfi_n m hk, iI_i1]
      refine ⟨fun z => ?_, fun z => S_clash m _ o e hon hen (B_X2_clashing_60 m Q e hen _ _ _ _ ?_)⟩
      · have ec : cck m e k = false := by unfold cck; rw [decide_eq_true z]; rfl
        have ek : ckm m e (k + 1) = ckm m e k := if_neg (by rw [ec]; decide)
        rw [ek] at ih
        exact ih
      · have ec : cck m e k = ecl m o e := by unfold cck; rw [decide_eq_false z, hr]; rfl
        rw [iI_i1]
        refine bz (fun y => ?_) (fun y => ?_)
        · have ek : ckm m e (k + 1) = ckm m e k := if_neg (by rw [ec, y]; decide)
          rw [ek] at ih
          exact ih
        · have ek : ckm m e (k + 1) = ckm m e k ||| 2 ^ jf m k := if_pos (by rw [ec, y])
          have zb : 0 ≤ (m.1 36 k).toInt ∧ (m.1 36 k).toInt < 20 := by
            rcases hJ k hk with w | w
            · exact absurd w z
            · exact w
          have ej : m.1 36 k = iI (jf m k : Int) := by
            unfold jf
            rw [Int.toNat_of_nonneg zb.1, iI_self]
          have bj : jf m k < 20 := by unfold jf; omega
          have hp : 2 ^ jf m k < 2 ^ 20 := Nat.pow_lt_pow_right (by decide) bj
          rw [ej, iI_sh1 (by omega), iI_or (by omega) (by omega)]
          rw [ek] at ih
          exact ih
  · intro _ _
    exact B_X2_clashing_14 m Q e hen _ _ ⟨fun _ => h, fun z => absurd (show (60 : Int32) ≤ iI ((60 : Nat) : Int) by decide) z⟩
def cfit (m : am_M) (e s f : Nat) : Bool := !cbt m e f 60 && (decide (cst m f = 0) && wm (m.2.1 (48 + 2 * f)) (m.2.1 (s + 1)))
def cfp (m : am_M) (i : Int) (f : Nat) : Bool := match cent m i with
  | none => false
  | some e => match am_gR YL m e 4 with
    | none => false
    | some s => decide (cfi m i = -1) && cfit m e s f
theorem S_fitting (m : am_M) (Q : Option Value → am_M → Prop) (hB : BK m) (hJ : JB m) (E : Nat) (hE : E ≤ 20) (h8 : m.1 38 8 = iI (E : Int)) (i : Int) (hbi : -2147483648 ≤ i ∧ i ≤ 2147483647) (h : Q (some (.int (iI (fmk (cfp m i) E : Int)))) m) : am_WP YL 33 0 0 0 [some (.ref 38), some (.int (iI i)), none, none, none, none] [] m Q := by
  have no : (∀ f, cfp m i f = false) → Q (some (.int 0)) m := by
    intro z
    rw [show cfp m i = fun _ => false from funext z, fmk_0] at h
    exact h
  refine B_X2_fitting_0 m Q _ (S_squaresOf m _ hB i hbi ?_)
  cases hc : cent m i with
  | none =>
    have e1 : csq m i = none := by unfold csq; rw [hc]
    rw [e1]
    exact B_X2_fitting_8n m Q _ (no (fun f => by unfold cfp; rw [hc]))
  | some e =>
    have e1 : csq m i = am_gR YL m e 4 := by unfold csq; rw [hc]
    rw [e1]
    cases hs : am_gR YL m e 4 with
    | none => exact B_X2_fitting_8n m Q _ (no (fun f => by unfold cfp; rw [hc]; dsimp only; rw [hs]))
    | some s =>
      have hsq := ((cent_ok hB hc).2.2.2 s hs).1
      refine B_X2_fitting_8r m Q _ s hsq (S_fireOf m _ i hbi (B_X2_fitting_21 m Q _ s hsq _ ⟨fun z => ?_, fun z => no (fun f => by unfold cfp; rw [hc]; dsimp only; rw [hs]; dsimp only; rw [decide_eq_false z, Bool.false_and])⟩))
      have ef : cfp m i = cfit m e s := by
        funext f
        unfold cfp
        rw [hc]
        dsimp only
        rw [hs]
        dsimp only
        rw [decide_eq_true z, Bool.true_and]
      rw [ef] at h
      have hcl := ckm_lt hJ e 60 (Nat.le_refl _)
      refine S_clashing m _ hB hJ i hbi e hc (B_X2_fitting_32 m Q s hsq _ ?_)
      have := lp (N := E) (W := fun k (_ : Unit) => am_WP YL 33 0 0 39 [some (.ref 38), none, some (.ref s), some (.int (iI (ckm m e 60 : Int))), some (.int (iI (fmk (cfit m e s) k : Int))), some (.int (iI (k : Int)))] [] m Q) (fun _ _ => True) (s := ()) trivial ?_ ?_
      · exact this
      · intro k _ hk _ ih
        have ih := ih () trivial
        have b := cst_b m k
        have fl := fmk_lt (cfit m e s) k
        have fl2 : 2 ^ k ≤ 2 ^ 19 := Nat.pow_le_pow_right (by decide) (by omega)
        have nx : cfit m e s k = false → am_WP YL 33 0 0 39 [some (.ref 38), none, some (.ref s), some (.int (iI (ckm m e 60 : Int))), some (.int (iI (fmk (cfit m e s) k : Int))), some (.int (iI ((k : Int) + 1)))] [] m Q := by
          intro y
          have ek : fmk (cfit m e s) (k + 1) = fmk (cfit m e s) k := if_neg (by rw [y]; decide)
          rw [ek] at ih
          exact ih
        refine B_X2_fitting_39 m Q s hsq _ _ _ ?_
        rw [h8]
        refine ⟨fun y => absurd ((iI_le (by omega) (by omega) (by omega) (by omega)).mp y) (by omega), fun _ => ?_⟩
        rw [show ((iI (ckm m e 60 : Int) >>> (iI (k : Int) &&& 31)) &&& (1 : Int32)) = 0 ↔ (ckm m e 60).testBit k = false from iI_tb (by omega) (by omega), ckm_tb, iI_i1]
        refine ⟨fun y => nx ?_, fun y => S_stateOf m _ k (by omega) (B_X2_fitting_63 m Q s hsq _ _ _ _ ?_)⟩
        · have y : cbt m e k 60 = true := by cases hp : cbt m e k 60; exact absurd hp y; rfl
          unfold cfit
          rw [y]
          rfl
        · rw [show (0 : Int32) = iI 0 from rfl, iI_eq (by omega) (by omega) (by omega) (by omega), iI_i1]
          refine ⟨fun x => nx (by unfold cfit; rw [decide_eq_false x, Bool.false_and, Bool.and_false]), fun x => ?_⟩
          have hc := cst_one (m := m) (f := (k : Int)) (by omega)
          have ep : pch m (k : Int) = 47 + 2 * k := by
            unfold pch
            rw [if_pos hc, Int.toNat_natCast]
          refine S_patchOf m _ k (by omega) (B_X2_fitting_72r m Q s hsq _ _ _ _ (pch_ok m k) (S_meets m _ _ s (pch_ok m k) hsq (B_X2_fitting_76 m Q s hsq _ _ _ _ ?_)))
          rw [ep, show 47 + 2 * k + 1 = 48 + 2 * k by omega, iI_i1]
          have ef2 : cfit m e s k = wm (m.2.1 (48 + 2 * k)) (m.2.1 (s + 1)) := by
            unfold cfit
            rw [y, decide_eq_true x]
            rfl
          refine bz (fun w => nx (by rw [ef2, w])) (fun w => ?_)
          have ek : fmk (cfit m e s) (k + 1) = fmk (cfit m e s) k ||| 2 ^ k := if_pos (by rw [ef2, w])
          rw [ek] at ih
          rw [iI_sh1 (by omega), iI_or (by omega) (by omega)]
          exact ih
      · intro _ _
        refine B_X2_fitting_39 m Q s hsq _ _ _ ?_
        rw [h8]
        exact ⟨fun _ => h, fun y => absurd ((iI_le (by omega) (by omega) (by omega) (by omega)).mpr (by omega)) y⟩
