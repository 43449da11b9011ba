/-! ===== the class: the log and the fires ===== -/
def Rn (m0 m1 : am_M) (f : Nat) : Prop := Ag [41, 48 + 2 * f] m0 m1 ∧ (∀ j, m1.1 41 j = if j = f then iI (cnt m0 (iI (f : Int)) : Int) else m0.1 41 j) ∧ ∀ q, q < 256 → wb (m1.2.1 (48 + 2 * f)) q = pat m0 (iI (f : Int)) q
theorem csq_i {m : am_M} {i : Int} {s : Nat} (h : csq m i = some s) : ∃ e, cent m i = some e ∧ am_gR YL m e 4 = some s ∧ 0 ≤ i ∧ i < 60 := by
  unfold csq at h
  cases hc : cent m i with
  | none => rw [hc] at h; cases h
  | some e =>
    rw [hc] at h
    refine ⟨e, rfl, h, ?_⟩
    unfold cent at hc
    by_cases c : 0 ≤ i ∧ i < 60
    · exact c
    · rw [if_neg c] at hc
      cases hc
/-- one joined, and the fire's patch made anew -/
theorem S_joined (m : am_M) (Q : Option Value → am_M → Prop) (hB : BK m) (i : Nat) (hi : i < 60) (f : Nat) (hf : cfo m (f : Int) = true) (v : Int32) (hJ : ∀ j, j < 60 → j ≠ i → m.1 36 j = iI (f : Int) → ∃ s, csq m (j : Int) = some s) (hv : v = iI (f : Int) → ∃ s, csq m (i : Int) = some s) (P : am_M → Prop)
    (h : ∀ m1, Rn (am_pI m 36 i v) m1 f → P m1) (R : Option Value → am_M → Prop) (hR : ∀ m1, P m1 → R none m1) :
    am_WP YL 32 0 0 0 [some (.ref 38), some (.int (iI (f : Int))), none, none, none] [] (am_pI m 36 i v) R := by
  have fr : Ar [36] m (am_pI m 36 i v) := (Ar.rf _ m).pI (by decide) _ _
  have lt : ∀ a, a ∈ [36] → a < 133 := by decide
  refine S_renew _ _ (hB.fr fr lt (by decide)) f (by exact hf) (fun j hj e => ?_) (fun m1 f1 a1 a2 => hR m1 (h m1 ⟨f1, a1, a2⟩))
  rw [csq_fr fr lt (by decide) hB]
  rw [am_pI_at] at e
  by_cases c : j = i
  · rw [if_pos c] at e
    rw [c]
    exact hv e
  · rw [if_neg c] at e
    exact hJ j hj c e
def JS (m : am_M) : Prop := ∀ i, i < 60 → ¬ m.1 36 i = -1 → ∃ s, csq m (i : Int) = some s
theorem JS.at {m : am_M} (h : JS m) (f : Nat) (hf : f < 20) : ∀ j, j < 60 → m.1 36 j = iI (f : Int) → ∃ s, csq m (j : Int) = some s := fun j hj e => h j hj (fun z => by
  rw [z] at e
  have := (iI_eq (a := -1) (b := (f : Int)) (by omega) (by omega) (by omega) (by omega)).mp (show iI (-1) = iI (f : Int) from e)
  omega)
theorem S_unite (m : am_M) (Q : Option Value → am_M → Prop) (hB : BK m) (hJ : JS m) (tp sz : Nat) (ht : tp < 50) (hs : sz ≤ 50) (h4 : m.1 97 4 = iI (tp : Int)) (h5 : m.1 97 5 = iI (sz : Int)) (i : Nat) (hi : i < 60) (f : Nat) (hf : cfo m (f : Int) = true) (hq : ∃ s, csq m (i : Int) = some s)
    (h : ∀ m1 m2, Rn (am_pI m 36 i (iI (f : Int))) m1 f → Kept m1 m2 tp sz 2 (iI (i : Int)) (iI (f : Int)) none → Q none m2) :
    am_WP YL 156 0 0 0 [some (.ref 3), some (.int (iI (i : Int))), some (.int (iI (f : Int)))] [] m Q := by
  have f20 : f < 20 := by have := of_decide_eq_true hf; omega
  refine B_X10_unite_0 m Q _ _ (S_putFire m _ i hi _ (B_X10_unite_9 _ Q _ _ ?_))
  refine S_joined m Q hB i hi f hf _ (fun j hj _ => hJ.at f f20 j hj) (fun _ => hq) (fun m1 => Rn (am_pI m 36 i (iI (f : Int))) m1 f) (fun m1 r => r) _ (fun m1 r => B_X10_unite_17 m1 Q _ _ ?_)
  have n97 : m1.1 97 = m.1 97 := by rw [r.1.I (fun z => by simp only [List.mem_cons, List.not_mem_nil, or_false] at z; omega)]; rfl
  exact S_keepN m1 _ tp sz ht hs (by rw [n97]; exact h4) (by rw [n97]; exact h5) _ _ _ (fun m2 k2 => B_X10_unite_28 m2 Q (h m1 m2 r k2))
theorem S_cjoin (m : am_M) (Q : Option Value → am_M → Prop) (hB : BK m) (hJB : JB m) (hJ : JS m) (E : Nat) (hE : E ≤ 20) (h8 : m.1 38 8 = iI (E : Int)) (tp sz : Nat) (ht : tp < 50) (hs : sz ≤ 50) (h4 : m.1 97 4 = iI (tp : Int)) (h5 : m.1 97 5 = iI (sz : Int)) (i f : Int) (hbi : -2147483648 ≤ i ∧ i ≤ 2147483647) (hbf : -2147483648 ≤ f ∧ f ≤ 2147483647)
    (h0 : (inR f 0 ((E : Int) - 1) && cfp m i f.toNat) = false → Q (some (.int 0)) m)
    (h1 : (inR f 0 ((E : Int) - 1) && cfp m i f.toNat) = true → ∀ m1 m2, Rn (am_pI m 36 i.toNat (iI f)) m1 f.toNat → Kept m1 m2 tp sz 2 (iI i) (iI f) none → Q (some (.int 1)) m2) :
    am_WP YL 125 0 0 0 [some (.ref 3), some (.int (iI i)), some (.int (iI f))] [] m Q := by
  have e1 : iI f < (0 : Int32) ↔ f < 0 := iI_lt (b := 0) (by omega) (by omega) (by omega) (by omega)
  have e2 : (20 : Int32) ≤ iI f ↔ 20 ≤ f := iI_le (a := 20) (by omega) (by omega) (by omega) (by omega)
  have no : ¬ (0 ≤ f ∧ f < (E : Int)) → Q (some (.int 0)) m := fun z => h0 (by
    unfold inR
    rw [decide_eq_false (by omega), Bool.false_and])
  refine B_X10_join_0 m Q _ _ ?_
  rw [e1, e2]
  refine ⟨fun z => no (by omega), fun z => ⟨fun y => no (by omega), fun y => S_fitting m _ hB hJB E hE h8 i hbi (B_X10_join_18 m Q _ _ _ ?_)⟩⟩
  obtain ⟨n, hn⟩ : ∃ n : Nat, f = (n : Int) := ⟨f.toNat, by omega⟩
  subst hn
  have lt := fmk_lt (cfp m i) E
  have p20 : 2 ^ E ≤ 2 ^ 20 := Nat.pow_le_pow_right (by decide) hE
  rw [iI_tb (by omega) (by omega), fmk_tb, Int.toNat_natCast] at *
  refine ⟨fun x => ?_, fun x => h0 ?_⟩
  · have x : (decide (n < E) && cfp m i n) = true := by
      cases c : (decide (n < E) && cfp m i n)
      · exact absurd c x
      · rfl
    obtain ⟨x1, x2⟩ := Bool.and_eq_true_iff.mp x
    have x1 := of_decide_eq_true x1
    have ok : (inR (n : Int) 0 ((E : Int) - 1) && cfp m i n) = true := by
      unfold inR
      rw [decide_eq_true (by omega), x2]
      rfl
    have hc : ∃ s, csq m i = some s := by
      unfold cfp at x2
      unfold csq
      cases hc : cent m i with
      | none => rw [hc] at x2; cases x2
      | some e =>
        rw [hc] at x2
        dsimp only at x2 ⊢
        cases hq : am_gR YL m e 4 with
        | none => rw [hq] at x2; cases x2
        | some s => exact ⟨s, rfl⟩
    obtain ⟨s, hs'⟩ := hc
    obtain ⟨e, _, _, i1, i2⟩ := csq_i hs'
    obtain ⟨j, hj⟩ : ∃ j : Nat, i = (j : Int) := ⟨i.toNat, by omega⟩
    subst hj
    have cf1 : cfo m (n : Int) = true := by
      unfold cfo
      rw [h8, iI_to (by omega) (by omega)]
      exact decide_eq_true (by omega)
    refine S_unite m _ hB hJ tp sz ht hs h4 h5 j (by omega) n cf1 ⟨s, hs'⟩ (fun m1 m2 r k => B_X10_join_33 m2 Q (h1 ok m1 m2 ?_ k))
    rw [Int.toNat_natCast]
    exact r
  · unfold inR
    cases c : cfp m i n
    · rw [Bool.and_false]
    · rw [c, Bool.and_true] at x
      rw [decide_eq_false (by have := of_decide_eq_false x; omega), Bool.false_and]
def cbok (m : am_M) (i : Int) (E : Nat) : Bool := match csq m i with
  | none => false
  | some s => wm (m.2.1 (s + 1)) (m.2.1 (s + 1)) && (decide (cfi m i = -1) && !decide (E = 20))
theorem S_cbegin (m : am_M) (Q : Option Value → am_M → Prop) (hB : BK m) (hJ : JS m) (hJB : JB m) (E : Nat) (hE : E ≤ 20) (h8 : m.1 38 8 = iI (E : Int)) (tp sz : Nat) (ht : tp < 50) (hs : sz ≤ 50) (h4 : m.1 97 4 = iI (tp : Int)) (h5 : m.1 97 5 = iI (sz : Int)) (i : Int) (hbi : -2147483648 ≤ i ∧ i ≤ 2147483647)
    (h0 : cbok m i E = false → Q (some (.int (-1))) m)
    (h1 : cbok m i E = true → ∀ s, csq m i = some s → ∀ m0 m1 m2, Ag [38, 39, 40] m m0 → m0.1 38 8 = iI ((E + 1 : Nat) : Int) → (∀ f, m0.1 39 f = if f = E then 0 else m.1 39 f) → (∀ f, m0.1 40 f = if f = E then iI (lst (lom m s) E) else m.1 40 f) → Rn (am_pI m0 36 i.toNat (iI (E : Int))) m1 E → Kept m1 m2 tp sz 3 (iI i) (iI (E : Int)) none → Q (some (.int (iI (E : Int)))) m2) :
    am_WP YL 126 0 0 0 [some (.ref 3), some (.int (iI i)), none, none] [] m Q := by
  refine B_X10_begin_0 m Q _ (S_squaresOf m _ hB i hbi ?_)
  cases hc : csq m i with
  | none => exact B_X10_begin_8n m Q _ (h0 (by unfold cbok; rw [hc]))
  | some s =>
    have ec : cbok m i E = (wm (m.2.1 (s + 1)) (m.2.1 (s + 1)) && (decide (cfi m i = -1) && !decide (E = 20))) := by unfold cbok; rw [hc]
    obtain ⟨e, he1, he2, i1, i2⟩ := csq_i hc
    have sq := ((cent_ok hB he1).2.2.2 s he2).1
    have sb := (cent_ok hB he1).2.2.2 s he2
    refine B_X10_begin_8r m Q _ s sq (S_isEmpty m _ s sq (B_X10_begin_17 m Q _ s sq _ (bz' (fun y => ?_) (fun y => ?_))))
    · refine S_fireOf m _ i hbi (B_X10_begin_28 m Q _ s sq _ ⟨fun x => ?_, fun x => h0 (by rw [ec, decide_eq_false x, Bool.false_and, Bool.and_false])⟩)
      have y : wm (m.2.1 (s + 1)) (m.2.1 (s + 1)) = true := by
        cases c : wm (m.2.1 (s + 1)) (m.2.1 (s + 1))
        · rw [c] at y; cases y
        · rfl
      by_cases e20 : E = 20
      · exact S_kindleNo m _ (by rw [h8, e20]; rfl) s sq (B_X10_begin_42 m Q _ _ ⟨fun w => absurd rfl w, fun _ => h0 (by rw [ec, decide_eq_true e20, Bool.not_true, Bool.and_false, Bool.and_false])⟩)
      · have ok : cbok m i E = true := by rw [ec, y, decide_eq_true x, decide_eq_false e20]; rfl
        obtain ⟨j, hj⟩ : ∃ j : Nat, i = (j : Int) := ⟨i.toNat, by omega⟩
        subst hj
        refine S_kindle m _ E (by omega) h8 s sq (fun m0 f0 a1 a2 a3 => B_X10_begin_42 m0 Q _ _ ⟨fun _ => S_putFire m0 _ j (by omega) _ (B_X10_begin_59 _ Q _ _ ?_), fun w => absurd ((iI_eq (b := -1) (by omega) (by omega) (by omega) (by omega)).mp w) (by omega)⟩)
        have ar : Ar [38, 39, 40] m m0 := Ar.ag f0 (fun _ z => z)
        have lt : ∀ a, a ∈ [38, 39, 40] → a < 133 := by decide
        have cf1 : cfo m0 (E : Int) = true := by
          unfold cfo
          rw [a1, iI_to (by omega) (by omega)]
          exact decide_eq_true (by omega)
        refine S_joined m0 Q (hB.fr ar lt (by decide)) j (by omega) E cf1 _ (fun j' hj' _ e => ?_) (fun _ => ?_) (fun m1 => Rn (am_pI m0 36 j (iI (E : Int))) m1 E) (fun m1 r => r) _ (fun m1 r => B_X10_begin_67 m1 Q _ _ ?_)
        · rw [csq_fr ar lt (by decide) hB]
          rw [f0.I (by decide)] at e
          exact hJ.at E (by omega) j' hj' e
        · rw [csq_fr ar lt (by decide) hB]
          exact ⟨s, hc⟩
        · have n97 : m1.1 97 = m.1 97 := by
            rw [r.1.I (fun z => by simp only [List.mem_cons, List.not_mem_nil, or_false] at z; omega), am_pI_ne (by decide), f0.I (by decide)]
          refine S_keepN m1 _ tp sz ht hs (by rw [n97]; exact h4) (by rw [n97]; exact h5) _ _ _ (fun m2 k2 => B_X10_begin_78 m2 Q _ (h1 ok s hc m0 m1 m2 f0 a1 a2 a3 ?_ k2))
          rw [Int.toNat_natCast]
          exact r
    · refine h0 ?_
      rw [ec]
      cases c : wm (m.2.1 (s + 1)) (m.2.1 (s + 1))
      · rfl
      · rw [c] at y; cases y
def capok (m : am_M) (i : Int) : Bool := !decide (cfi m i = -1) && decide (cst m (cfi m i).toInt = 0)
theorem S_capart (m : am_M) (Q : Option Value → am_M → Prop) (hB : BK m) (hJ : JS m) (hJB : JB m) (tp sz : Nat) (ht : tp < 50) (hs : sz ≤ 50) (h4 : m.1 97 4 = iI (tp : Int)) (h5 : m.1 97 5 = iI (sz : Int)) (i : Int) (hbi : -2147483648 ≤ i ∧ i ≤ 2147483647)
    (h0 : capok m i = false → Q (some (.int 0)) m)
    (h1 : capok m i = true → 0 ≤ i → i < 60 → ∀ f : Nat, f < 20 → m.1 36 i.toNat = iI (f : Int) → ∀ m1 m2, Rn (am_pI m 36 i.toNat (-1)) m1 f → Kept m1 m2 tp sz 4 (iI i) (iI (f : Int)) none → Q (some (.int 1)) m2) :
    am_WP YL 127 0 0 0 [some (.ref 3), some (.int (iI i)), none] [] m Q := by
  refine B_X10_apart_0 m Q _ (S_fireOf m _ i hbi (B_X10_apart_8 m Q _ _ ⟨fun z => h0 (by unfold capok; rw [decide_eq_true z]; rfl), fun z => ?_⟩))
  have hi : 0 ≤ i ∧ i < 60 := by
    by_cases c : 0 ≤ i ∧ i < 60
    · exact c
    · unfold cfi at z
      rw [if_neg c] at z
      exact absurd rfl z
  obtain ⟨j, hj⟩ : ∃ j : Nat, i = (j : Int) := ⟨i.toNat, by omega⟩
  subst hj
  have ef : cfi m (j : Int) = m.1 36 j := cfi_n m (by omega)
  rcases hJB j (by omega) with y | y
  · exact absurd (ef.trans y) z
  · obtain ⟨f, hf⟩ : ∃ f : Nat, (m.1 36 j).toInt = (f : Int) := ⟨(m.1 36 j).toInt.toNat, by omega⟩
    have e36 : m.1 36 j = iI (f : Int) := by rw [← hf, iI_self]
    have f20 : f < 20 := by omega
    have cb : -1 ≤ cst m (f : Int) ∧ cst m (f : Int) ≤ 2 := by
      unfold cst
      split
      · split
        · split <;> omega
        · omega
      · omega
    rw [ef, e36]
    have fto : (iI (f : Int)).toInt = (f : Int) := iI_to (by omega) (by omega)
    refine S_stateOf m _ f (by omega) (B_X10_apart_22 m Q _ _ _ ?_)
    rw [show (0 : Int32) = iI 0 from rfl, iI_eq (by omega) (by omega) (by omega) (by omega)]
    refine ⟨fun x => ?_, fun x => h0 (by unfold capok; rw [ef, e36, fto, decide_eq_false x, Bool.and_false])⟩
    have ok : capok m (j : Int) = true := by
      unfold capok
      rw [decide_eq_false z, ef, e36, fto, decide_eq_true x]
      rfl
    refine S_putFire m _ j (by omega) _ (B_X10_apart_36 _ Q _ _ ?_)
    have cf1 : cfo m (f : Int) = true := cst_one (by omega)
    refine S_joined m Q hB j (by omega) f cf1 _ (fun j' hj' _ => hJ.at f f20 j' hj') (fun e => ?_) (fun m1 => Rn (am_pI m 36 j (-1)) m1 f) (fun m1 r => r) _ (fun m1 r => B_X10_apart_44 m1 Q _ _ ?_)
    · have := (iI_eq (a := -1) (b := (f : Int)) (by omega) (by omega) (by omega) (by omega)).mp (show iI (-1) = iI (f : Int) from e)
      omega
    · have n97 : m1.1 97 = m.1 97 := by rw [r.1.I (fun z => by simp only [List.mem_cons, List.not_mem_nil, or_false] at z; omega)]; rfl
      refine S_keepN m1 _ tp sz ht hs (by rw [n97]; exact h4) (by rw [n97]; exact h5) _ _ _ (fun m2 k2 => B_X10_apart_55 m2 Q (h1 ok hi.1 hi.2 f f20 (by rw [Int.toNat_natCast]; exact e36) m1 m2 ?_ k2))
      rw [Int.toNat_natCast]
      exact r
theorem S_cout (m : am_M) (Q : Option Value → am_M → Prop) (tp sz : Nat) (ht : tp < 50) (hs : sz ≤ 50) (h4 : m.1 97 4 = iI (tp : Int)) (h5 : m.1 97 5 = iI (sz : Int)) (f : Int) (hbf : -2147483648 ≤ f ∧ f ≤ 2147483647)
    (h0 : cst m f ≠ 0 → Q (some (.int 0)) m)
    (h1 : cst m f = 0 → ∀ m2, Kept (am_pI m 39 f.toNat 1) m2 tp sz 5 (iI f) (-1) none → Q (some (.int 1)) m2) :
    am_WP YL 129 0 0 0 [some (.ref 3), some (.int (iI f))] [] m Q := by
  have cb : -1 ≤ cst m f ∧ cst m f ≤ 2 := by
    unfold cst
    split
    · split
      · split <;> omega
      · omega
    · omega
  refine B_X10_out_0 m Q _ (S_stateOf m _ f hbf (B_X10_out_8 m Q _ _ ?_))
  have e0 : iI (cst m f) = (0 : Int32) ↔ cst m f = 0 := iI_eq (b := 0) (by omega) (by omega) (by omega) (by omega)
  rw [e0]
  refine ⟨fun x => ?_, fun x => h0 x⟩
  have cf1 : cfo m f = true := cst_one (by omega)
  have y := of_decide_eq_true cf1
  obtain ⟨n, hn⟩ : ∃ n : Nat, f = (n : Int) := ⟨f.toNat, by omega⟩
  subst hn
  refine S_putOut m _ n cf1 1 (Or.inr rfl) (B_X10_out_22 _ Q _ (S_keepN (am_pI m 39 n 1) _ tp sz ht hs h4 h5 _ _ _ (fun m2 k2 => B_X10_out_33 m2 Q (h1 x m2 ?_))))
  rw [Int.toNat_natCast]
  exact k2
def cclok (m : am_M) (i : Int) : Bool := (cent m i).isSome && decide (cfi m i = -1)
theorem S_cclear (m : am_M) (Q : Option Value → am_M → Prop) (hB : BK m) (u : Int) (hu : m.1 34 3 = iI u) (tp sz : Nat) (ht : tp < 50) (hs : sz ≤ 50) (h4 : m.1 97 4 = iI (tp : Int)) (h5 : m.1 97 5 = iI (sz : Int)) (i : Int) (hbi : -2147483648 ≤ i ∧ i ≤ 2147483647)
    (h0 : cclok m i = false → Q (some (.int 0)) m)
    (h1 : cclok m i = true → 0 ≤ i → i < 60 → ∀ e, am_gR YL m 35 i.toNat = some e → ∀ m2, Kept (am_pR (am_pI m 34 3 (iI (u - 1))) 35 i.toNat none) m2 tp sz 1 (iI i) (-1) (some e) → Q (some (.int 1)) m2) :
    am_WP YL 122 0 0 0 [some (.ref 3), some (.int (iI i)), none] [] m Q := by
  refine B_X10_clear_0 m Q _ (S_entryAt m _ hB i hbi ?_)
  cases hc : cent m i with
  | none => exact B_X10_clear_8n m Q _ (h0 (by unfold cclok; rw [hc]; rfl))
  | some e =>
    have hi : 0 ≤ i ∧ i < 60 := by
      by_cases c : 0 ≤ i ∧ i < 60
      · exact c
      · unfold cent at hc
        rw [if_neg c] at hc
        cases hc
    obtain ⟨j, hj⟩ : ∃ j : Nat, i = (j : Int) := ⟨i.toNat, by omega⟩
    subst hj
    have hen := (cent_ok hB hc).1
    have er : am_gR YL m 35 j = some e := by rw [← cent_n m (by omega)]; exact hc
    refine B_X10_clear_8r m Q _ e hen (S_fireOf m _ j hbi (B_X10_clear_21 m Q _ e hen _ ⟨fun x => ?_, fun x => h0 (by unfold cclok; rw [decide_eq_false x, Bool.and_false])⟩))
    have ok : cclok m (j : Int) = true := by unfold cclok; rw [hc, decide_eq_true x]; rfl
    refine S_bputN m _ hB j (by omega) u hu (B_X10_clear_36 _ Q _ e (by exact hen) ?_)
    rw [er, show u + (0 - oI (some e)) = u - 1 by rw [show oI (some e) = 1 from rfl]; omega]
    refine S_keepE (am_pR (am_pI m 34 3 (iI (u - 1))) 35 j none) _ tp sz ht hs h4 h5 _ _ _ e (by exact hen) (fun m2 k2 => B_X10_clear_47 m2 Q (h1 ok hi.1 hi.2 e (by rw [Int.toNat_natCast]; exact er) m2 ?_))
    rw [Int.toNat_natCast]
    exact k2
theorem S_enter (m : am_M) (Q : Option Value → am_M → Prop) (hB : BK m) (u : Int) (hu : m.1 34 3 = iI u) (tp sz : Nat) (ht : tp < 50) (hs : sz ≤ 50) (h4 : m.1 97 4 = iI (tp : Int)) (h5 : m.1 97 5 = iI (sz : Int)) (i : Nat) (hi : i < 60) (hf : am_gR YL m 35 i = none) (e : Nat) (he : sw_en m e)
    (h1 : ∀ m2, Kept (am_pR (am_pI m 34 3 (iI (u + 1))) 35 i (some e)) m2 tp sz 0 (iI (i : Int)) (-1) none → Q none m2) :
    am_WP YL 154 0 0 0 [some (.ref 3), some (.int (iI (i : Int))), some (.ref e)] [] m Q := by
  refine B_X10_enter_0 m Q _ e he (S_bputE m _ hB i hi e he u hu (B_X10_enter_9 _ Q _ ?_))
  rw [hf, show u + (1 - oI none) = u + 1 by rw [show oI none = 0 from rfl]; omega]
  exact S_keepN (am_pR (am_pI m 34 3 (iI (u + 1))) 35 i (some e)) _ tp sz ht hs h4 h5 _ _ _ (fun m2 k2 => B_X10_enter_20 m2 Q (h1 m2 k2))
