/-! ===== the fires of the class ===== -/
def cfo (m : am_M) (f : Int) : Bool := decide (0 ≤ f ∧ f < (m.1 38 8).toInt ∧ f < 20)
theorem S_fIsOne (m : am_M) (Q : Option Value → am_M → Prop) (f : Int) (hbf : -2147483648 ≤ f ∧ f ≤ 2147483647) (h : Q (some (.int (bI (cfo m f)))) m) : am_WP YL 22 0 0 0 [some (.ref 38), some (.int (iI f))] [] m Q := by
  refine B_X2_isOne_0 m Q _ ?_
  have b := iI_b (m.1 38 8)
  rw [← iI_self (m.1 38 8)]
  simp (disch := omega) only [iI_lit, iI_ofNat, iI_neg, iI_add, iI_sub, iI_mul, iI_lt, iI_le, iI_eq, iI_in, iI_cl]
  unfold cfo at h
  refine ⟨fun z => ?_, fun z => ⟨fun y => ?_, fun y => ⟨fun x => ?_, fun x => ?_⟩⟩⟩
  · rw [decide_eq_false (by omega)] at h
    exact h
  · rw [decide_eq_false (by omega)] at h
    exact h
  · rw [decide_eq_false (by omega)] at h
    exact h
  · rw [decide_eq_true (by omega)] at h
    exact h
def cst (m : am_M) (f : Int) : Int := if cfo m f then (if m.1 39 f.toNat = 0 then (if (m.1 41 f.toNat).toInt ≤ 0 then 2 else 0) else 1) else -1
theorem cst_b (m : am_M) (f : Int) : -1 ≤ cst m f ∧ cst m f ≤ 2 := by
  unfold cst
  (repeat' split) <;> omega
theorem S_stateOf (m : am_M) (Q : Option Value → am_M → Prop) (f : Int) (hbf : -2147483648 ≤ f ∧ f ≤ 2147483647) (h : Q (some (.int (iI (cst m f)))) m) : am_WP YL 23 0 0 0 [some (.ref 38), some (.int (iI f))] [] m Q := by
  refine B_X2_stateOf_0 m Q _ (S_fIsOne m _ f hbf (B_X2_stateOf_5 m Q _ _ (bz' (fun z => ?_) (fun z => ?_))))
  · unfold cst at h
    rw [z] at h
    exact h
  · have z0 := of_decide_eq_true z
    have b := iI_b (m.1 41 f.toNat)
    unfold cst at h
    rw [if_pos z] at h
    rw [iI_cl (by omega) (by omega), iI_in (by omega) (by omega), ← iI_self (m.1 41 f.toNat), show (0 : Int32) = iI 0 from rfl, iI_le (by omega) (by omega) (by omega) (by omega)]
    refine ⟨by omega, fun y => ⟨by omega, fun x => ?_, fun x => ?_⟩, fun y => ?_⟩
    · rw [if_pos (show m.1 39 f.toNat = 0 from y), if_pos x] at h
      exact h
    · rw [if_pos (show m.1 39 f.toNat = 0 from y), if_neg x] at h
      exact h
    · rw [if_neg (show ¬ m.1 39 f.toNat = 0 from y)] at h
      exact h
theorem S_membersOf (m : am_M) (Q : Option Value → am_M → Prop) (f : Int) (hbf : -2147483648 ≤ f ∧ f ≤ 2147483647) (hf : cfo m f = true) (h : Q (some (.int (m.1 41 f.toNat))) m) : am_WP YL 24 0 0 0 [some (.ref 38), some (.int (iI f))] [] m Q := by
  have z0 := of_decide_eq_true hf
  refine B_X2_membersOf_0 m Q _ (S_fIsOne m _ f hbf (B_X2_membersOf_5 m Q _ _ (bz (fun z => by rw [hf] at z; cases z) (fun _ => ?_))))
  rw [iI_cl (by omega) (by omega), iI_in (by omega) (by omega)]
  exact ⟨by omega, h⟩
theorem S_againOf (m : am_M) (Q : Option Value → am_M → Prop) (f : Int) (hbf : -2147483648 ≤ f ∧ f ≤ 2147483647) (hf : cfo m f = true) (h : Q (some (.int (m.1 40 f.toNat))) m) : am_WP YL 25 0 0 0 [some (.ref 38), some (.int (iI f))] [] m Q := by
  have z0 := of_decide_eq_true hf
  refine B_X2_againOf_0 m Q _ (S_fIsOne m _ f hbf (B_X2_againOf_5 m Q _ _ (bz (fun z => by rw [hf] at z; cases z) (fun _ => ?_))))
  rw [iI_cl (by omega) (by omega), iI_in (by omega) (by omega)]
  exact ⟨by omega, h⟩
theorem sq_p (m : am_M) : ∀ f, f < 20 → sw_sq m (47 + 2 * f) ∧ am_gR YL m 42 f = some (47 + 2 * f) := by
  intro f hf
  have e : ∀ m : am_M, ∀ a, Nat.ble 133 a = false → am_k YL m a = (match YL.2 a with | some k => k | none => (0, 0)) ∨ YL.2 a = none := by
    intro m a _
    unfold am_k
    cases YL.2 a with
    | none => exact Or.inr rfl
    | some k => exact Or.inl rfl
  have k1 : (List.range 20).all (fun f => decide (YL.2 (47 + 2 * f) = some (6, 0)) && (decide (YL.1 (47 + 2 * f) 0 = some (47 + 2 * f + 1)) && (decide (YL.2 (47 + 2 * f + 1) = some (21, 4)) && (Nat.ble 3 (47 + 2 * f) && decide (YL.1 42 f = some (47 + 2 * f)))))) = true := by decide +kernel
  have k2 := List.all_eq_true.mp k1 f (List.mem_range.mpr hf)
  obtain ⟨a1, k2⟩ := Bool.and_eq_true_iff.mp k2
  obtain ⟨a2, k2⟩ := Bool.and_eq_true_iff.mp k2
  obtain ⟨a3, k2⟩ := Bool.and_eq_true_iff.mp k2
  obtain ⟨a4, a5⟩ := Bool.and_eq_true_iff.mp k2
  have a1 := of_decide_eq_true a1
  have a2 := of_decide_eq_true a2
  have a3 := of_decide_eq_true a3
  have a5 := of_decide_eq_true a5
  refine ⟨⟨?_, ?_, ?_, a4⟩, ?_⟩
  · unfold am_k; rw [a1]
  · unfold am_gR; rw [a2]
  · unfold am_k; rw [a3]
  · unfold am_gR; rw [a5]
def pch (m : am_M) (f : Int) : Nat := if cfo m f then 47 + 2 * f.toNat else 43
theorem pch_ok (m : am_M) (f : Int) : sw_sq m (pch m f) := by
  unfold pch
  by_cases c : cfo m f = true
  · have := of_decide_eq_true c
    rw [if_pos c]
    exact (sq_p m f.toNat (by omega)).1
  · rw [if_neg c]
    exact ⟨rfl, rfl, rfl, rfl⟩
theorem S_patchOf (m : am_M) (Q : Option Value → am_M → Prop) (f : Int) (hbf : -2147483648 ≤ f ∧ f ≤ 2147483647) (h : Q (some (.ref (pch m f))) m) : am_WP YL 26 0 0 0 [some (.ref 38), some (.int (iI f))] [] m Q := by
  refine B_X2_patchOf_0 m Q _ (S_fIsOne m _ f hbf (B_X2_patchOf_5 m Q _ _ (bz (fun z => ?_) (fun z => ?_))))
  · unfold pch at h
    rw [z] at h
    exact h
  · have z0 := of_decide_eq_true z
    have hq := sq_p m f.toNat (by omega)
    unfold pch at h
    rw [if_pos z] at h
    rw [iI_cl (by omega) (by omega), iI_in (by omega) (by omega), hq.2]
    refine ⟨by omega, B_X2_patchOf_14r m Q _ _ hq.1 ?_⟩
    rw [iI_cl (by omega) (by omega), iI_in (by omega) (by omega), hq.2]
    exact ⟨by omega, B_X2_patchOf_23r m Q _ hq.1 h⟩
theorem S_burning (m : am_M) (Q : Option Value → am_M → Prop) (E : Nat) (hE : E ≤ 20) (h8 : m.1 38 8 = iI (E : Int)) (h : Q (some (.int (iI (fb_ct (fun f => decide (cst m f = 0)) E : Int)))) m) : am_WP YL 27 0 0 0 [some (.ref 38), none, none] [] m Q := by
  refine B_X2_burning_0 m Q ?_
  have := lp (N := E) (W := fun k (_ : Unit) => am_WP YL 27 0 0 4 [some (.ref 38), some (.int (iI (fb_ct (fun f => decide (cst m f = 0)) k : Int))), some (.int (iI (k : Int)))] [] m Q) (fun _ _ => True) (s := ()) trivial ?_ ?_
  · exact this
  · intro k _ hk _ ih
    have ih := ih () trivial
    rw [fb_ct_succ] at ih
    have b := cst_b m k
    refine B_X2_burning_4 m Q _ _ ?_
    rw [h8]
    refine ⟨fun z => absurd ((iI_le (by omega) (by omega) (by omega) (by omega)).mp z) (by omega), fun _ => S_stateOf m _ k (by omega) (B_X2_burning_18 m Q _ _ _ ?_)⟩
    rw [iI_i1]
    simp (disch := omega) only [iI_lit, iI_add, iI_eq]
    refine ⟨fun z => ?_, fun z => ?_⟩
    · rw [decide_eq_false z] at ih
      rw [Int.add_zero]
      exact ih
    · rw [decide_eq_true z] at ih
      exact ih
  · intro _ _
    refine B_X2_burning_4 m Q _ _ ?_
    rw [h8]
    exact ⟨fun _ => h, fun z => absurd ((iI_le (by omega) (by omega) (by omega) (by omega)).mpr (by omega)) z⟩
/-- the last of those below n -/
def lst (p : Nat → Bool) : Nat → Int
  | 0 => -1
  | n + 1 => if p n = true then (n : Int) else lst p n
theorem lst_b (p : Nat → Bool) : ∀ n, -1 ≤ lst p n ∧ lst p n < n
  | 0 => ⟨by show (-1 : Int) ≤ -1; omega, by show (-1 : Int) < 0; omega⟩
  | n + 1 => by
    have := lst_b p n
    unfold lst
    split <;> omega
theorem lst_cong {p q : Nat → Bool} : ∀ n, (∀ k, k < n → p k = q k) → lst p n = lst q n
  | 0, _ => rfl
  | n + 1, h => by
    unfold lst
    rw [h n (Nat.lt_succ_self n), lst_cong n (fun k hk => h k (by omega))]
def lom (m : am_M) (a : Nat) (f : Nat) : Bool := decide (cst m f = 1) && wm (m.2.1 (48 + 2 * f)) (m.2.1 (a + 1))
theorem cst_one {m : am_M} {f : Int} (h : -1 < cst m f) : cfo m f = true := by
  unfold cst at h
  by_cases c : cfo m f = true
  · exact c
  · rw [if_neg c] at h
    omega
theorem S_latest (m : am_M) (Q : Option Value → am_M → Prop) (E : Nat) (hE : E ≤ 20) (h8 : m.1 38 8 = iI (E : Int)) (a : Nat) (ha : sw_sq m a) (h : Q (some (.int (iI (lst (lom m a) E)))) m) : am_WP YL 29 0 0 0 [some (.ref 38), some (.ref a), none] [] m Q := by
  refine B_X2_latestOutMeeting_0 m Q a ha ?_
  rw [h8, show (1 : Int32) = iI 1 from rfl, iI_sub]
  have key : ∀ k, k ≤ E → (lst (lom m a) k = lst (lom m a) E) → am_WP YL 29 0 0 7 [some (.ref 38), some (.ref a), some (.int (iI ((k : Int) - 1)))] [] m Q := by
    intro k
    induction k with
    | zero =>
      intro hk he
      refine B_X2_latestOutMeeting_7 m Q a ha _ ?_
      rw [← he] at h
      exact ⟨fun _ => h, fun z => absurd ((iI_lt (b := 0) (by omega) (by omega) (by omega) (by omega)).mpr (by omega)) z⟩
    | succ k ih =>
      intro hk he
      have b := cst_b m k
      rw [show ((k + 1 : Nat) : Int) - 1 = (k : Int) by omega]
      have nx : lom m a k = false → am_WP YL 29 0 0 7 [some (.ref 38), some (.ref a), some (.int (iI (k : Int) + (-1)))] [] m Q := by
        intro z
        rw [show (-1 : Int32) = iI (-1) from rfl, iI_add, show (k : Int) + -1 = (k : Int) - 1 by omega]
        refine ih (by omega) ?_
        have e2 : lst (lom m a) (k + 1) = lst (lom m a) k := if_neg (by rw [z]; decide)
        rw [← he, e2]
      refine B_X2_latestOutMeeting_7 m Q a ha _ ⟨fun z => absurd ((iI_lt (b := 0) (by omega) (by omega) (by omega) (by omega)).mp z) (by omega), fun _ => ?_⟩
      refine S_stateOf m _ k (by omega) (B_X2_latestOutMeeting_16 m Q a ha _ _ ?_)
      rw [show (1 : Int32) = iI 1 from rfl, iI_eq (by omega) (by omega) (by omega) (by omega)]
      refine ⟨fun z => nx (by unfold lom; rw [decide_eq_false z, Bool.false_and]), fun z => ?_⟩
      have hc := cst_one (m := m) (f := (k : Int)) (by omega)
      have ep : pch m (k : Int) = 47 + 2 * k := by
        unfold pch
        rw [if_pos hc, Int.toNat_natCast]
      refine S_patchOf m _ k (by omega) (B_X2_latestOutMeeting_25r m Q a ha _ _ (pch_ok m k) (S_meets m _ _ a (pch_ok m k) ha (B_X2_latestOutMeeting_29 m Q a ha _ _ ?_)))
      rw [ep, show 47 + 2 * k + 1 = 48 + 2 * k by omega]
      refine bz (fun y => nx (by unfold lom; rw [y, Bool.and_false])) (fun y => ?_)
      have e : lst (lom m a) (k + 1) = (k : Int) := if_pos (by unfold lom; rw [decide_eq_true z, y]; rfl)
      rw [← he, e] at h
      exact h
  have := key E (Nat.le_refl E) rfl
  exact this
theorem S_kindle (m : am_M) (Q : Option Value → am_M → Prop) (E : Nat) (hE : E < 20) (h8 : m.1 38 8 = iI (E : Int)) (a : Nat) (ha : sw_sq m a) (h : ∀ m1, Ag [38, 39, 40] m m1 → m1.1 38 8 = iI ((E + 1 : Nat) : Int) → (∀ f, m1.1 39 f = if f = E then 0 else m.1 39 f) → (∀ f, m1.1 40 f = if f = E then iI (lst (lom m a) E) else m.1 40 f) → Q (some (.int (iI (E : Int)))) m1) : am_WP YL 28 0 0 0 [some (.ref 38), some (.ref a), none] [] m Q := by
  have e : (iI (E : Int)).toNatClampNeg = E := by rw [iI_cl (by omega) (by omega), Int.toNat_natCast]
  have v : vp_in (iI (E : Int)) 20 := (iI_in (by omega) (by omega)).mpr (by omega)
  refine B_X2_kindle_0 m Q a ha ?_
  rw [h8]
  refine ⟨fun z => absurd ((iI_lt (b := 0) (by omega) (by omega) (by omega) (by omega)).mp z) (by omega), fun _ => ⟨fun _ => ?_, fun z => absurd ((iI_lt (b := 20) (by omega) (by omega) (by omega) (by omega)).mpr (by omega)) z⟩⟩
  refine S_latest m _ E (by omega) h8 a ha (B_X2_kindle_27 m Q _ 40 20 rfl rfl _ _ ⟨v, v, ?_⟩)
  rw [e, am_pI_ne (by decide), am_pI_ne (by decide), h8, show (1 : Int32) = iI 1 from rfl, iI_add]
  refine h _ ((((Ag.rf _ m).pI (by decide) _ _).pI (by decide) _ _).pI (by decide) _ _) ?_ ?_ ?_
  · rw [am_pI_at, if_pos rfl]
    rfl
  · intro f
    rw [am_pI_ne (by decide), am_pI_at, am_pI_ne (by decide)]
  · intro f
    rw [am_pI_ne (by decide), am_pI_ne (by decide), am_pI_at]
theorem S_kindleNo (m : am_M) (Q : Option Value → am_M → Prop) (h8 : m.1 38 8 = 20) (a : Nat) (ha : sw_sq m a) (h : Q (some (.int (-1))) m) : am_WP YL 28 0 0 0 [some (.ref 38), some (.ref a), none] [] m Q := by
  refine B_X2_kindle_0 m Q a ha ?_
  rw [h8]
  exact ⟨fun z => absurd z (by decide), fun _ => ⟨fun z => absurd z (by decide), fun _ => h⟩⟩
/-! renew -/
def has (m : am_M) (i q : Nat) : Bool := match csq m (i : Int) with
  | none => false
  | some s => wb (m.2.1 (s + 1)) q
def pa (m : am_M) (f : Int32) : Nat → Nat → Bool
  | 0, _ => true
  | k + 1, q => pa m f k q && (!decide (m.1 36 k = f) || has m k q)
def cnt (m : am_M) (f : Int32) : Nat := fb_ct (fun i => decide (m.1 36 i = f)) 60
def pat (m : am_M) (f : Int32) (q : Nat) : Bool := decide (0 < cnt m f) && pa m f 60 q
theorem csq_fr {A : List Nat} {m m1 : am_M} (h : Ar A m m1) (hA : ∀ a, a ∈ A → a < 133) (h35 : 35 ∉ A) (hB : BK m) (i : Int) : csq m1 i = csq m i := by
  unfold csq cent
  by_cases c : 0 ≤ i ∧ i < 60
  · rw [if_pos c, if_pos c, h.R h35]
    cases hr : am_gR YL m 35 i.toNat with
    | none => rfl
    | some e =>
      have := (hB i.toNat (by omega) e hr).2.1
      exact h.R (fun z => by have := hA e z; omega) 4
  · rw [if_neg c, if_neg c]
theorem has_fr {A : List Nat} {m m1 : am_M} (h : Ar A m m1) (hA : ∀ a, a ∈ A → a < 133) (h35 : 35 ∉ A) (hB : BK m) (i q : Nat) : has m1 i q = has m i q := by
  unfold has
  rw [csq_fr h hA h35 hB]
  cases hr : csq m (i : Int) with
  | none => rfl
  | some s =>
    have := csq_ok hB hr
    show wb (m1.2.1 (s + 1)) q = wb (m.2.1 (s + 1)) q
    rw [h.J (fun z => by have := hA _ z; omega)]
theorem S_renew (m : am_M) (Q : Option Value → am_M → Prop) (hB : BK m) (f : Nat) (hf : cfo m f = true) (hJ : ∀ i, i < 60 → m.1 36 i = iI (f : Int) → ∃ s, csq m i = some s)
    (h : ∀ m1, Ag [41, 48 + 2 * f] m m1 → (∀ j, m1.1 41 j = if j = f then iI (cnt m (iI (f : Int)) : Int) else m.1 41 j) → (∀ q, q < 256 → wb (m1.2.1 (48 + 2 * f)) q = pat m (iI (f : Int)) q) → Q none m1) : am_WP YL 32 0 0 0 [some (.ref 38), some (.int (iI (f : Int))), none, none, none] [] m Q := by
  have z0 := of_decide_eq_true hf
  have e : (iI (f : Int)).toNatClampNeg = f := by rw [iI_cl (by omega) (by omega), Int.toNat_natCast]
  have v : vp_in (iI (f : Int)) 20 := (iI_in (by omega) (by omega)).mpr (by omega)
  have ep : pch m (f : Int) = 47 + 2 * f := by
    unfold pch
    rw [if_pos hf, Int.toNat_natCast]
  have hs : ∀ m1, sw_sq m1 (47 + 2 * f) := fun m1 => (sq_p m1 f (by omega)).1
  refine B_X2_renew_0 m Q _ (S_fIsOne m _ f (by omega) (B_X2_renew_5 m Q _ _ (bz' (fun z => by rw [hf] at z; cases z) (fun _ => ?_))))
  refine S_patchOf m _ f (by omega) ?_
  rw [ep]
  refine B_X2_renew_14r m Q _ _ (hs m) (S_fill m _ _ (hs m) (B_X2_renew_19 _ Q _ _ (hs _) ?_))
  rw [show 47 + 2 * f + 1 = 48 + 2 * f by omega]
  have m48 : 48 + 2 * f ∈ [41, 48 + 2 * f] := List.mem_cons_of_mem _ (List.mem_singleton.mpr rfl)
  have m41 : 41 ∈ [41, 48 + 2 * f] := List.mem_cons_self
  have nin : ∀ a, a ≠ 41 → a ≠ 48 + 2 * f → a ∉ [41, 48 + 2 * f] := by
    intro a h1 h2 h3
    rcases List.mem_cons.mp h3 with z | z
    · exact h1 z
    · exact h2 (List.mem_singleton.mp z)
  have lt : ∀ a, a ∈ [41, 48 + 2 * f] → a < 133 := by
    intro a h3
    rcases List.mem_cons.mp h3 with z | z
    · omega
    · have := List.mem_singleton.mp z
      omega
  have lec := fun k => fb_ct_le (fun i => decide (m.1 36 i = iI (f : Int))) k
  have := lp (N := 60) (W := fun k m1 => am_WP YL 32 0 0 24 [some (.ref 38), some (.int (iI (f : Int))), some (.ref (47 + 2 * f)), some (.int (iI (fb_ct (fun i => decide (m.1 36 i = iI (f : Int))) k : Int))), some (.int (iI (k : Int)))] [] m1 Q) (fun k m1 => Ag [41, 48 + 2 * f] m m1 ∧ m1.1 41 = m.1 41 ∧ ∀ q, q < 256 → wb (m1.2.1 (48 + 2 * f)) q = pa m (iI (f : Int)) k q) (s := am_wJ m (48 + 2 * f) (am_fx 4 (fun _ => -1) (m.2.1 (48 + 2 * f)))) ⟨(Ag.rf _ m).wJ m48 _, rfl, ?_⟩ ?_ ?_
  · exact this
  · intro q hq
    rw [am_wJ_at, wb_fx hq, wb_ones]
    rfl
  · rintro k m1 hk ⟨f1, b0, b1⟩ ih
    have ih := fun m2 => ih m2
    rw [fb_ct_succ] at ih
    have ar : Ar [41, 48 + 2 * f] m m1 := Ar.ag f1 (fun _ z => z)
    have hB1 : BK m1 := hB.fr ar lt (nin 35 (by decide) (by omega))
    refine B_X2_renew_24 m1 Q _ _ (hs m1) _ _ ⟨fun z => absurd ((iI_le (a := 60) (by omega) (by omega) (by omega) (by omega)).mp z) (by omega), fun _ => ?_⟩
    refine S_fireOf m1 _ k (by omega) ?_
    rw [cfi_n m1 hk, f1.I (nin 36 (by decide) (by omega))]
    refine B_X2_renew_40 m1 Q _ _ (hs m1) _ _ _ ?_
    rw [iI_i1]
    refine ⟨fun z => ?_, fun z => ?_⟩
    · rw [decide_eq_false z] at ih
      refine ih m1 ⟨f1, b0, fun q hq => ?_⟩
      show _ = (pa m (iI (f : Int)) k q && (!decide (m.1 36 k = iI (f : Int)) || has m k q))
      rw [b1 q hq, decide_eq_false z]
      simp
    · rw [decide_eq_true z] at ih
      obtain ⟨s, hsq⟩ := hJ k hk z
      have hsq1 : csq m1 (k : Int) = some s := (csq_fr ar lt (nin 35 (by decide) (by omega)) hB k).trans hsq
      have so := csq_ok hB1 hsq1
      refine S_squaresOf m1 _ hB1 k (by omega) ?_
      rw [hsq1]
      refine B_X2_renew_54r m1 Q _ _ (hs m1) _ _ _ (hs m1) s so.1 (S_keepOnly m1 _ _ s (hs m1) so.1 (by omega) (B_X2_renew_57 _ Q _ _ (hs _) _ _ ?_))
      rw [iI_i1, iI_i1, show 47 + 2 * f + 1 = 48 + 2 * f by omega]
      refine ih _ ⟨f1.wJ m48 _, b0, fun q hq => ?_⟩
      rw [am_wJ_at, wb_fx hq, wb_and', b1 q hq]
      show _ = (pa m (iI (f : Int)) k q && (!decide (m.1 36 k = iI (f : Int)) || has m k q))
      rw [decide_eq_true z]
      have eh : has m k q = wb (m1.2.1 (s + 1)) q := by
        rw [← has_fr ar lt (nin 35 (by decide) (by omega)) hB k q]
        unfold has
        rw [hsq1]
      rw [eh]
      rfl
  · rintro m1 ⟨f1, b0, b1⟩
    have fin : ∀ m2, Ag [41, 48 + 2 * f] m m2 → m2.1 41 = m.1 41 → (∀ q, q < 256 → wb (m2.2.1 (48 + 2 * f)) q = pat m (iI (f : Int)) q) → Q none (am_pI m2 41 f (iI (cnt m (iI (f : Int)) : Int))) := by
      intro m2 f2 g0 g1
      refine h _ (f2.pI m41 _ _) ?_ g1
      intro j
      rw [am_pI_at, g0]
    refine B_X2_renew_24 m1 Q _ _ (hs m1) _ _ ⟨fun _ => ?_, fun z => absurd (show (60 : Int32) ≤ iI ((60 : Nat) : Int) by decide) z⟩
    have l60 := lec 60
    have ec : fb_ct (fun i => decide (m.1 36 i = iI (f : Int))) 60 = cnt m (iI (f : Int)) := rfl
    rw [ec] at l60 ⊢
    rw [show (0 : Int32) = iI 0 from rfl, iI_eq (by omega) (by omega) (by omega) (by omega), e]
    refine ⟨fun z => ⟨v, fin m1 f1 b0 (fun q hq => ?_)⟩, fun z => ?_⟩
    · rw [b1 q hq]
      unfold pat
      rw [decide_eq_true (by omega), Bool.true_and]
    · refine S_empty m1 _ _ (hs m1) (B_X2_renew_74 _ Q _ _ ⟨v, ?_⟩)
      rw [e, show 47 + 2 * f + 1 = 48 + 2 * f by omega]
      refine fin _ (f1.wJ m48 _) b0 (fun q hq => ?_)
      rw [am_wJ_at, wb_fx hq, wb_zero]
      unfold pat
      rw [decide_eq_false (by omega), Bool.false_and]
theorem S_putOut (m : am_M) (Q : Option Value → am_M → Prop) (f : Nat) (hf : cfo m f = true) (v : Int32) (hv : v = 0 ∨ v = 1) (h : Q none (am_pI m 39 f v)) : am_WP YL 31 0 0 0 [some (.ref 38), some (.int (iI (f : Int))), some (.int v)] [] m Q := by
  have z0 := of_decide_eq_true hf
  refine B_X2_putOut_0 m Q _ _ (S_fIsOne m _ f (by omega) (B_X2_putOut_5 m Q _ _ _ (bz (fun z => by rw [hf] at z; cases z) (fun _ => ?_))))
  rw [iI_cl (by omega) (by omega), iI_in (by omega) (by omega), Int.toNat_natCast]
  exact ⟨by omega, hv, h⟩
theorem S_fForget (m : am_M) (Q : Option Value → am_M → Prop) (E : Nat) (hE : E < 20) (h8 : m.1 38 8 = iI ((E + 1 : Nat) : Int)) (h : Q none (am_pI m 38 8 (iI (E : Int)))) : am_WP YL 30 0 0 0 [some (.ref 38)] [] m Q := by
  refine B_X2_forgetLast_0 m Q ?_
  rw [h8, show (1 : Int32) = iI 1 from rfl, iI_sub, show ((E + 1 : Nat) : Int) - 1 = (E : Int) by omega]
  exact ⟨fun z => absurd ((iI_le (b := 0) (by omega) (by omega) (by omega) (by omega)).mp z) (by omega), fun _ => h⟩
