/-! ===== check ===== -/
def cin (sg : Nat → Bool) (cl : Nat → Int32) (st : Nat → Nat → Bool) (i : Nat) : Nat → Nat → Bool
  | 0, q => st i q
  | k + 1, q => cin sg cl st i k q && (!(sg k && decide (cl k = cl i)) || st k q)
def cal (sg : Nat → Bool) (cl : Nat → Int32) (al : Nat → Nat → Bool) (i : Nat) : Nat → Bool
  | 0 => false
  | k + 1 => cal sg cl al i k || ((sg k && decide (cl k = cl i)) && al i k)
def wrg (sg : Nat → Bool) (cl : Nat → Int32) (st : Nat → Nat → Bool) (al : Nat → Nat → Bool) (i : Nat) : Bool := cal sg cl al i i || decide (fb_ct (cin sg cl st i i) 256 = 0)
def chk (sg : Nat → Bool) (cl : Nat → Int32) (st : Nat → Nat → Bool) (al : Nat → Nat → Bool) : Int := kth (fun i => sg i && (!decide (cl i = -1) && wrg sg cl st al i)) 0 60
theorem cin_cong {sg sg' : Nat → Bool} {cl cl' : Nat → Int32} {st st' : Nat → Nat → Bool} {i : Nat} (hi : i < 60) (h1 : ∀ j, j < 60 → sg j = sg' j) (h2 : ∀ j, j < 60 → cl j = cl' j) (h3 : ∀ j q, j < 60 → q < 256 → sg j = true → st j q = st' j q) (hs : sg i = true) (q : Nat) (hq : q < 256) : ∀ k, k ≤ 60 → cin sg cl st i k q = cin sg' cl' st' i k q
  | 0, _ => h3 i q hi hq hs
  | k + 1, hk => by
    show (cin sg cl st i k q && (!(sg k && decide (cl k = cl i)) || st k q)) = (cin sg' cl' st' i k q && (!(sg' k && decide (cl' k = cl' i)) || st' k q))
    rw [cin_cong hi h1 h2 h3 hs q hq k (by omega), ← h1 k (by omega), ← h2 k (by omega), ← h2 i hi]
    cases hc : sg k
    · rfl
    · rw [h3 k q (by omega) hq hc]
theorem cal_cong {sg sg' : Nat → Bool} {cl cl' : Nat → Int32} {al al' : Nat → Nat → Bool} {i : Nat} (hi : i < 60) (h1 : ∀ j, j < 60 → sg j = sg' j) (h2 : ∀ j, j < 60 → cl j = cl' j) (h3 : ∀ j, j < 60 → sg j = true → al i j = al' i j) : ∀ k, k ≤ 60 → cal sg cl al i k = cal sg' cl' al' i k
  | 0, _ => rfl
  | k + 1, hk => by
    show (cal sg cl al i k || ((sg k && decide (cl k = cl i)) && al i k)) = (cal sg' cl' al' i k || ((sg' k && decide (cl' k = cl' i)) && al' i k))
    rw [cal_cong hi h1 h2 h3 k (by omega), ← h1 k (by omega), ← h2 k (by omega), ← h2 i hi]
    cases hc : sg k
    · rfl
    · rw [h3 k (by omega) hc]
theorem chk_cong {sg sg' : Nat → Bool} {cl cl' : Nat → Int32} {st st' : Nat → Nat → Bool} {al al' : Nat → Nat → Bool} (h1 : ∀ j, j < 60 → sg j = sg' j) (h2 : ∀ j, j < 60 → cl j = cl' j) (h3 : ∀ j q, j < 60 → q < 256 → sg j = true → st j q = st' j q) (h4 : ∀ i j, i < 60 → j < 60 → sg i = true → sg j = true → al i j = al' i j) : chk sg cl st al = chk sg' cl' st' al' := by
  unfold chk
  apply kth_cong
  intro i hi
  rw [← h1 i hi, ← h2 i hi]
  cases hs : sg i
  · rfl
  · unfold wrg
    rw [cal_cong hi h1 h2 (fun j hj hc => h4 i j hi hj hs hc) i (by omega), fb_ct_cong (fun q hq => cin_cong hi h1 h2 h3 hs q hq i (by omega))]
theorem wm_self (f : Nat → Int64) : wm f f = !decide (fb_ct (wb f) 256 = 0) := by
  rw [wm_mtb]
  unfold mtb
  rw [fb_ct_cong (q := wb f) (fun q _ => Bool.and_self _)]
  by_cases c : fb_ct (wb f) 256 = 0
  · rw [decide_eq_true c, decide_eq_false (by omega)]; rfl
  · rw [decide_eq_false c, decide_eq_true (by omega)]; rfl
def csg (m : am_M) (i : Nat) : Bool := match am_gR YL m 35 i with
  | none => false
  | some e => !decide (m.1 e 0 = 5)
def cak (m : am_M) (i j : Nat) : Bool := match am_gR YL m 35 i, am_gR YL m 35 j with
  | some e, some o => ecl m o e
  | _, _ => false
/-- sightings, and they alone, have squares -/
def SG (m : am_M) : Prop := ∀ i, i < 60 → ∀ e, am_gR YL m 35 i = some e → (am_gR YL m e 4 = none ↔ m.1 e 0 = 5)
theorem S_wrong (m : am_M) (Q : Option Value → am_M → Prop) (hB : BK m) (hS : SG m) (i : Nat) (hi : i < 60) (hsi : csg m i = true) (h : ∀ m1, Ag [108] m m1 → Q (some (.int (bI (wrg (csg m) (m.1 37) (has m) (cak m) i)))) m1) : am_WP YL 159 0 0 0 [some (.ref 3), some (.int (iI (i : Int))), none, none, none] [] m Q := by
  have s107 : ∀ m1, sw_sq m1 107 := fun m1 => ⟨rfl, rfl, rfl, rfl⟩
  have lt : ∀ a, a ∈ [108] → a < 133 := by decide
  obtain ⟨e, he⟩ : ∃ e, am_gR YL m 35 i = some e := by
    unfold csg at hsi
    cases hr : am_gR YL m 35 i with
    | none => rw [hr] at hsi; cases hsi
    | some e => exact ⟨e, rfl⟩
  have hen := hB i hi e he
  have hk5 : ¬ m.1 e 0 = 5 := by
    unfold csg at hsi
    rw [he] at hsi
    intro z
    dsimp only at hsi
    rw [decide_eq_true z] at hsi
    cases hsi
  obtain ⟨s, hs⟩ : ∃ s, am_gR YL m e 4 = some s := by
    cases hr : am_gR YL m e 4 with
    | none => exact absurd ((hS i hi e he).mp hr) hk5
    | some s => exact ⟨s, rfl⟩
  have hsq := hen.2.2.2 s hs
  have ecs : csq m (i : Int) = some s := by unfold csq; rw [cent_n m hi, he]; exact hs
  have f0 : Ag [108] m (am_wJ m 108 (am_fx 4 (fun _ => -1) (m.2.1 108))) := (Ag.rf _ m).wJ (by decide) _
  have a0 : Ar [108] m (am_wJ m 108 (am_fx 4 (fun _ => -1) (m.2.1 108))) := Ar.ag f0 (fun _ z => z)
  refine B_X10_isWronglySaid_0 m Q _ (S_fill m _ 107 (s107 m) (B_X10_isWronglySaid_7 _ Q _ (S_squaresOf _ _ (hB.fr a0 lt (by decide)) i (by omega) ?_)))
  rw [csq_fr a0 lt (by decide) hB, ecs]
  have sq0 := a0.sq (fun z => by have := lt s z; omega) hsq.1
  refine B_X10_isWronglySaid_19r _ Q _ 107 (s107 _) s sq0 (S_keepOnly _ _ 107 s (s107 _) sq0 (by omega) (B_X10_isWronglySaid_22 _ Q _ ?_))
  have f1 : Ag [108] m (am_wJ (am_wJ m 108 (am_fx 4 (fun _ => -1) (m.2.1 108))) 108 (am_fx 4 (fun j => (am_wJ m 108 (am_fx 4 (fun _ => -1) (m.2.1 108))).2.1 108 j &&& (am_wJ m 108 (am_fx 4 (fun _ => -1) (m.2.1 108))).2.1 (s + 1) j) ((am_wJ m 108 (am_fx 4 (fun _ => -1) (m.2.1 108))).2.1 108))) := f0.wJ (by decide) _
  have w1 : ∀ q, q < 256 → wb ((am_wJ (am_wJ m 108 (am_fx 4 (fun _ => -1) (m.2.1 108))) 108 (am_fx 4 (fun j => (am_wJ m 108 (am_fx 4 (fun _ => -1) (m.2.1 108))).2.1 108 j &&& (am_wJ m 108 (am_fx 4 (fun _ => -1) (m.2.1 108))).2.1 (s + 1) j) ((am_wJ m 108 (am_fx 4 (fun _ => -1) (m.2.1 108))).2.1 108))).2.1 108) q = cin (csg m) (m.1 37) (has m) i 0 q := by
    intro q hq
    rw [am_wJ_at, wb_fx hq, wb_and', am_wJ_at, wb_fx hq, wb_ones, am_wJ_ne (show s + 1 ≠ 108 by omega), Bool.true_and]
    show _ = has m i q
    unfold has
    rw [ecs]
  refine S_entryAt _ _ (hB.fr (Ar.ag f1 (fun _ z => z)) lt (by decide)) i (by omega) ?_
  have ece : cent (am_wJ (am_wJ m 108 (am_fx 4 (fun _ => -1) (m.2.1 108))) 108 (am_fx 4 (fun j => (am_wJ m 108 (am_fx 4 (fun _ => -1) (m.2.1 108))).2.1 108 j &&& (am_wJ m 108 (am_fx 4 (fun _ => -1) (m.2.1 108))).2.1 (s + 1) j) ((am_wJ m 108 (am_fx 4 (fun _ => -1) (m.2.1 108))).2.1 108))) (i : Int) = some e := by
    rw [cent_n _ hi]
    exact he
  rw [ece]
  refine B_X10_isWronglySaid_30r _ Q _ e (f1.en hen.1) ?_
  have := lp (N := i) (W := fun k m1 => am_WP YL 159 0 0 33 [some (.ref 3), some (.int (iI (i : Int))), some (.ref e), some (.int (iI (k : Int))), none] [] m1 Q) (fun k m1 => Ag [108] m m1 ∧ (∀ q, q < 256 → wb (m1.2.1 108) q = cin (csg m) (m.1 37) (has m) i k q) ∧ cal (csg m) (m.1 37) (cak m) i k = false) (s := am_wJ (am_wJ m 108 (am_fx 4 (fun _ => -1) (m.2.1 108))) 108 (am_fx 4 (fun j => (am_wJ m 108 (am_fx 4 (fun _ => -1) (m.2.1 108))).2.1 108 j &&& (am_wJ m 108 (am_fx 4 (fun _ => -1) (m.2.1 108))).2.1 (s + 1) j) ((am_wJ m 108 (am_fx 4 (fun _ => -1) (m.2.1 108))).2.1 108))) ⟨f1, w1, rfl⟩ ?_ ?_
  · exact this
  · rintro k m1 hk ⟨g1, g2, g3⟩ ih
    have ar : Ar [108] m m1 := Ar.ag g1 (fun _ z => z)
    have hB1 : BK m1 := hB.fr ar lt (by decide)
    have skip : csg m k = false ∨ ¬ m.1 37 k = m.1 37 i → am_WP YL 159 0 0 33 [some (.ref 3), some (.int (iI (i : Int))), some (.ref e), some (.int (iI ((k : Int) + 1))), none] [] m1 Q := by
      intro z
      have zz : (csg m k && decide (m.1 37 k = m.1 37 i)) = false := by
        rcases z with z | z
        · rw [z, Bool.false_and]
        · rw [decide_eq_false z, Bool.and_false]
      refine ih m1 ⟨g1, fun q hq => ?_, ?_⟩
      · show _ = (cin (csg m) (m.1 37) (has m) i k q && (!(csg m k && decide (m.1 37 k = m.1 37 i)) || has m k q))
        rw [zz, g2 q hq, Bool.not_false, Bool.true_or, Bool.and_true]
      · show (cal (csg m) (m.1 37) (cak m) i k || ((csg m k && decide (m.1 37 k = m.1 37 i)) && cak m i k)) = false
        rw [zz, g3]
        rfl
    refine B_X10_isWronglySaid_33 m1 Q _ e (g1.en hen.1) _ ⟨fun z => absurd ((iI_le (by omega) (by omega) (by omega) (by omega)).mp z) (by omega), fun _ => S_entryAt m1 _ hB1 k (by omega) ?_⟩
    rw [cent_n m1 (by omega), g1.R]
    cases hr : am_gR YL m 35 k with
    | none =>
      refine B_X10_isWronglySaid_46n m1 Q _ e (g1.en hen.1) _ ?_
      rw [iI_i1]
      exact skip (Or.inl (by unfold csg; rw [hr]))
    | some o =>
      have hon := hB k (by omega) o hr
      have ho1 := g1.en hon.1
      have oI : m1.1 o = m.1 o := g1.I (fun z => by have := lt o z; have := hon.2.1; omega)
      have eI : m1.1 e = m.1 e := g1.I (fun z => by have := lt e z; have := hen.2.1; omega)
      refine B_X10_isWronglySaid_46r m1 Q _ e (g1.en hen.1) _ o ho1 (S_eSight m1 _ o ho1 (B_X10_isWronglySaid_58 m1 Q _ e (g1.en hen.1) _ o ho1 _ (bz (fun z => ?_) (fun z => ?_))))
      · rw [iI_i1]
        rw [oI] at z
        exact skip (Or.inl (by unfold csg; rw [hr]; exact z))
      · rw [oI] at z
        have zc : csg m k = true := by unfold csg; rw [hr]; exact z
        have hk5' : ¬ m.1 o 0 = 5 := fun y => by rw [decide_eq_true y] at z; cases z
        obtain ⟨s2, hs2⟩ : ∃ s, am_gR YL m o 4 = some s := by
          cases hr2 : am_gR YL m o 4 with
          | none => exact absurd ((hS k (by omega) o hr).mp hr2) hk5'
          | some s => exact ⟨s, rfl⟩
        have hsq2 := hon.2.2.2 s2 hs2
        refine S_saidOf m1 _ k (by omega) (B_X10_isWronglySaid_69 m1 Q _ e (g1.en hen.1) _ o ho1 _ (S_saidOf m1 _ i (by omega) (B_X10_isWronglySaid_77 m1 Q _ e (g1.en hen.1) _ o ho1 _ _ ?_)))
        rw [csa_n m1 (show k < 60 by omega), csa_n m1 hi, g1.I (show 37 ∉ _ by decide), iI_i1]
        refine ⟨fun y => skip (Or.inr y), fun y => S_clash m1 _ o e ho1 (g1.en hen.1) (B_X10_isWronglySaid_86 m1 Q _ e (g1.en hen.1) _ o ho1 _ ?_)⟩
        have ek : cak m i k = ecl m1 o e := by
          unfold cak ecl
          rw [he, hr, oI, eI]
        have zz : (csg m k && decide (m.1 37 k = m.1 37 i)) = true := by rw [zc, decide_eq_true y]; rfl
        refine bz (fun x => ?_) (fun x => ?_)
        · rw [g1.R, hs2]
          have sq2 := g1.sq hsq2.1
          refine B_X10_isWronglySaid_100r m1 Q _ e (g1.en hen.1) _ 107 (s107 m1) s2 sq2 (S_keepOnly m1 _ 107 s2 (s107 m1) sq2 (by omega) (B_X10_isWronglySaid_103 _ Q _ e (by exact g1.en hen.1) _ ?_))
          rw [iI_i1]
          refine ih _ ⟨g1.wJ (by decide) _, fun q hq => ?_, ?_⟩
          · rw [am_wJ_at, wb_fx hq, wb_and', g2 q hq, g1.J (show s2 + 1 ∉ [108] by intro w; have := lt _ w; omega)]
            show _ = (cin (csg m) (m.1 37) (has m) i k q && (!(csg m k && decide (m.1 37 k = m.1 37 i)) || has m k q))
            rw [zz]
            have eh : has m k q = wb (m.2.1 (s2 + 1)) q := by
              unfold has csq
              rw [cent_n m (show k < 60 by omega), hr]
              dsimp only
              rw [hs2]
            rw [eh]
            rfl
          · show (cal (csg m) (m.1 37) (cak m) i k || ((csg m k && decide (m.1 37 k = m.1 37 i)) && cak m i k)) = false
            rw [zz, g3, ek, x]
            rfl
        · have hc : cal (csg m) (m.1 37) (cak m) i i = true := by
            have : ∀ j, k < j → cal (csg m) (m.1 37) (cak m) i j = true := by
              intro j
              induction j with
              | zero => intro w; omega
              | succ j ihj =>
                intro w
                show (cal (csg m) (m.1 37) (cak m) i j || ((csg m j && decide (m.1 37 j = m.1 37 i)) && cak m i j)) = true
                by_cases c : k = j
                · subst c
                  rw [zz, ek, x]
                  cases cal (csg m) (m.1 37) (cak m) i k <;> rfl
                · rw [ihj (by omega), Bool.true_or]
            exact this i hk
          have := h m1 g1
          unfold wrg at this
          rw [hc, Bool.true_or] at this
          exact this
  · rintro m1 ⟨g1, g2, g3⟩
    refine B_X10_isWronglySaid_33 m1 Q _ e (g1.en hen.1) _ ⟨fun _ => S_isEmpty m1 _ 107 (s107 m1) (B_X10_isWronglySaid_116 m1 Q _ ⟨bI_01 _, ?_⟩), fun z => absurd ((iI_le (by omega) (by omega) (by omega) (by omega)).mpr (Int.le_refl _)) z⟩
    have := h m1 g1
    unfold wrg at this
    rw [g3, Bool.false_or] at this
    rw [wm_self, Bool.not_not, fb_ct_cong g2]
    exact this
theorem kth_first {p : Nat → Bool} {k n : Nat} (h0 : fb_ct p k = 0) (hk : p k = true) (hn : k < n) : kth p 0 n = (k : Int) := kth_at hk (by rw [h0]; rfl) hn
theorem kth_none0 {p : Nat → Bool} {n : Nat} (h0 : fb_ct p n = 0) : kth p 0 n = -1 := kth_no (fun q hq h1 _ => by
  have := fb_ct_zero.mp h0 q hq
  rw [h1] at this
  cases this)
theorem csg_fr {A : List Nat} {m m1 : am_M} (h : Ar A m m1) (hA : ∀ a, a ∈ A → a < 133) (h35 : 35 ∉ A) (hB : BK m) {i : Nat} (hi : i < 60) : csg m1 i = csg m i := by
  unfold csg
  rw [h.R h35]
  cases hr : am_gR YL m 35 i with
  | none => rfl
  | some e =>
    show (!decide (m1.1 e 0 = 5)) = _
    rw [h.I (fun z => by have := hA e z; have := (hB i hi e hr).2.1; omega)]
theorem cak_fr {A : List Nat} {m m1 : am_M} (h : Ar A m m1) (hA : ∀ a, a ∈ A → a < 133) (h35 : 35 ∉ A) (hB : BK m) {i j : Nat} (hi : i < 60) (hj : j < 60) : cak m1 i j = cak m i j := by
  unfold cak
  rw [h.R h35, h.R h35]
  cases hr : am_gR YL m 35 i with
  | none => rfl
  | some e =>
    cases hr2 : am_gR YL m 35 j with
    | none => rfl
    | some o =>
      show ecl m1 o e = ecl m o e
      unfold ecl
      rw [h.I (a := e) (fun z => by have := hA e z; have := (hB i hi e hr).2.1; omega), h.I (a := o) (fun z => by have := hA o z; have := (hB j hj o hr2).2.1; omega)]
theorem SG.fr {A : List Nat} {m m1 : am_M} (h : Ar A m m1) (hA : ∀ a, a ∈ A → a < 133) (h35 : 35 ∉ A) (hB : BK m) (hS : SG m) : SG m1 := by
  intro i hi e he
  rw [h.R h35] at he
  have ne : e ∉ A := fun z => by have := hA e z; have := (hB i hi e he).2.1; omega
  rw [h.R ne, h.I ne]
  exact hS i hi e he
theorem S_ccheck (m : am_M) (Q : Option Value → am_M → Prop) (hB : BK m) (hS : SG m) (h : ∀ m1, Ag [108] m m1 → Q (some (.int (iI (chk (csg m) (m.1 37) (has m) (cak m))))) m1) : am_WP YL 145 0 0 0 [some (.ref 3), none] [] m Q := by
  have lt : ∀ a, a ∈ [108] → a < 133 := by decide
  refine B_X10_check_0 m Q ?_
  have := lp (N := 60) (W := fun k m1 => am_WP YL 145 0 0 2 [some (.ref 3), some (.int (iI (k : Int)))] [] m1 Q) (fun k m1 => Ag [108] m m1 ∧ fb_ct (fun i => csg m i && (!decide (m.1 37 i = -1) && wrg (csg m) (m.1 37) (has m) (cak m) i)) k = 0) (s := m) ⟨Ag.rf _ m, rfl⟩ ?_ ?_
  · exact this
  · rintro k m1 hk ⟨g1, g2⟩ ih
    have ar : Ar [108] m m1 := Ar.ag g1 (fun _ z => z)
    have hB1 : BK m1 := hB.fr ar lt (by decide)
    have hS1 : SG m1 := hS.fr ar lt (by decide) hB
    have skip : ∀ m2, Ag [108] m m2 → (csg m k && (!decide (m.1 37 k = -1) && wrg (csg m) (m.1 37) (has m) (cak m) k)) = false → am_WP YL 145 0 0 2 [some (.ref 3), some (.int (iI ((k : Int) + 1)))] [] m2 Q := by
      intro m2 f2 z
      refine ih m2 ⟨f2, ?_⟩
      rw [fb_ct_succ, g2, z]
      rfl
    refine B_X10_check_2 m1 Q _ ⟨fun z => absurd ((iI_le (a := 60) (by omega) (by omega) (by omega) (by omega)).mp z) (by omega), fun _ => S_saidOf m1 _ k (by omega) (B_X10_check_16 m1 Q _ _ ?_)⟩
    rw [csa_n m1 hk, g1.I (show 37 ∉ _ by decide), iI_i1]
    refine ⟨fun z => skip m1 g1 (by rw [decide_eq_true z, Bool.not_true, Bool.false_and, Bool.and_false]), fun z => S_squaresOf m1 _ hB1 k (by omega) ?_⟩
    have esg : csg m1 k = csg m k := csg_fr ar lt (by decide) hB hk
    cases hc : csq m1 (k : Int) with
    | none =>
      refine B_X10_check_28n m1 Q _ ?_
      rw [iI_i1]
      refine skip m1 g1 ?_
      have : csg m k = false := by
        rw [← esg]
        unfold csg
        unfold csq at hc
        rw [cent_n m1 hk] at hc
        cases hr : am_gR YL m1 35 k with
        | none => rfl
        | some e =>
          rw [hr] at hc
          have := (hS1 k hk e hr).mp hc
          dsimp only
          rw [decide_eq_true this]
          rfl
      rw [this, Bool.false_and]
    | some s =>
      have sok1 := csq_ok hB1 hc
      have hcs : csg m k = true := by
        rw [← esg]
        unfold csg
        unfold csq at hc
        rw [cent_n m1 hk] at hc
        cases hr : am_gR YL m1 35 k with
        | none => rw [hr] at hc; cases hc
        | some e =>
          rw [hr] at hc
          have : ¬ m1.1 e 0 = 5 := fun y => by
            have := (hS1 k hk e hr).mpr y
            dsimp only at hc
            rw [this] at hc
            cases hc
          dsimp only
          rw [decide_eq_false this]
          rfl
      refine B_X10_check_28r m1 Q _ s sok1.1 (S_wrong m1 _ hB1 hS1 k hk (by rw [esg]; exact hcs) (fun m2 g3 => B_X10_check_36 m2 Q _ _ ?_))
      have ew : wrg (csg m1) (m1.1 37) (has m1) (cak m1) k = wrg (csg m) (m.1 37) (has m) (cak m) k := by
        unfold wrg
        rw [g1.I (show 37 ∉ _ by decide)]
        rw [cal_cong (sg := csg m1) (sg' := csg m) (cl := m.1 37) (cl' := m.1 37) (al := cak m1) (al' := cak m) hk (fun j hj => csg_fr ar lt (by decide) hB hj) (fun _ _ => rfl) (fun j hj _ => cak_fr ar lt (by decide) hB hk hj) k (by omega)]
        rw [fb_ct_cong (fun q hq => cin_cong (sg := csg m1) (sg' := csg m) (cl := m.1 37) (cl' := m.1 37) (st := has m1) (st' := has m) hk (fun j hj => csg_fr ar lt (by decide) hB hj) (fun _ _ => rfl) (fun j q _ _ _ => has_fr ar lt (by decide) hB j q) (by rw [esg]; exact hcs) q hq k (by omega))]
      rw [ew, iI_i1]
      refine bz (fun y => skip m2 (g1.tr g3) (by rw [y, Bool.and_false, Bool.and_false])) (fun y => ?_)
      have := h m2 (g1.tr g3)
      unfold chk at this
      rw [kth_first (k := k) g2 (by rw [hcs, decide_eq_false z, y]; rfl) hk] at this
      exact this
  · rintro m1 ⟨g1, g2⟩
    refine B_X10_check_2 m1 Q _ ⟨fun _ => ?_, fun z => absurd (show (60 : Int32) ≤ iI ((60 : Nat) : Int) by decide) z⟩
    have := h m1 g1
    unfold chk at this
    rw [kth_none0 g2] at this
    exact this
theorem S_mcheck (m : am_M) (Q : Option Value → am_M → Prop) (h : ∀ m1, Fm [119] [] m m1 → Q (some (.int (iI (chk (fun i => msi m (i : Int)) (m.1 132) (fun i => wb (mv m 116 i)) (mak m))))) m1) : am_WP YL 225 0 0 0 [some (.ref 109), none, none, none, none] [] m Q := by
  refine B_X11_check_0 m Q ?_
  have := lp (N := 60) (W := fun k m1 => am_WP YL 225 0 0 2 [some (.ref 109), some (.int (iI (k : Int))), none, none, none] [] m1 Q) (fun k m1 => Fm [119] [] m m1 ∧ fb_ct (fun i => msi m (i : Int) && (!decide (m.1 132 i = -1) && wrg (fun i => msi m (i : Int)) (m.1 132) (fun i => wb (mv m 116 i)) (mak m) i)) k = 0) (s := m) ⟨Fm.rf _ _ m, rfl⟩ ?_ ?_
  · exact this
  · rintro i m1 hi ⟨g1, g2⟩ ih
    have e115 : m1.1 115 = m.1 115 := g1.1 115 (by decide) (by decide)
    have skip : ∀ m2, Fm [119] [] m m2 → (msi m (i : Int) && (!decide (m.1 132 i = -1) && wrg (fun i => msi m (i : Int)) (m.1 132) (fun i => wb (mv m 116 i)) (mak m) i)) = false → am_WP YL 225 0 0 2 [some (.ref 109), some (.int (iI ((i : Int) + 1))), none, none, none] [] m2 Q := by
      intro m2 f2 z
      refine ih m2 ⟨f2, ?_⟩
      rw [fb_ct_succ, g2, z]
      rfl
    refine B_X11_check_2 m1 Q _ ⟨fun z => absurd ((iI_le (a := 60) (by omega) (by omega) (by omega) (by omega)).mp z) (by omega), fun _ => S_msi m1 _ i (by omega) (B_X11_check_13 m1 Q _ _ ?_)⟩
    rw [msi_fr g1 (by decide), iI_i1]
    refine bz (fun z => skip m1 g1 (by rw [z, Bool.false_and])) (fun z1 => ?_)
    rw [iI_cl (by omega) (by omega), Int.toNat_natCast, iI_in (by omega) (by omega), g1.1 132 (by decide) (by decide)]
    refine ⟨by omega, fun z2 => ?_, fun z2 => skip m1 g1 (by rw [decide_eq_true z2, Bool.not_true, Bool.false_and, Bool.and_false])⟩
    have hit : ∀ m2, Fm [119] [] m m2 → wrg (fun i => msi m (i : Int)) (m.1 132) (fun i => wb (mv m 116 i)) (mak m) i = true → Q (some (.int (iI (i : Int)))) m2 := by
      intro m2 f2 w
      have := h m2 f2
      unfold chk at this
      rw [kth_first (k := i) g2 (by rw [z1, decide_eq_false z2, w]; rfl) hi] at this
      exact this
    -- the walk over those ahead
    have walk : ∀ (d k : Nat) (m2 : am_M), k + d = i → Fm [119] [] m m2 → (∀ q, q < 256 → wb (m2.2.1 119) q = cin (fun i => msi m (i : Int)) (m.1 132) (fun i => wb (mv m 116 i)) i k q) → am_WP YL 225 0 0 62 [some (.ref 109), some (.int (iI (i : Int))), some (.int (bI (cal (fun i => msi m (i : Int)) (m.1 132) (mak m) i k))), some (.int (iI (k : Int))), none] [] m2 Q := by
      intro d
      induction d with
      | zero =>
        intro k m2 hk f2 w2
        obtain rfl : k = i := by omega
        refine B_X11_check_62 m2 Q _ _ _ ⟨fun _ => ?_, fun y => absurd ((iI_le (by omega) (by omega) (by omega) (by omega)).mpr (Int.le_refl _)) y⟩
        rw [iI_i1]
        refine bz' (fun y => ?_) (fun y => hit m2 f2 (by unfold wrg; rw [y, Bool.true_or]))
        have e0 : (((m2.2.1 119 0 ||| m2.2.1 119 1) ||| m2.2.1 119 2) ||| m2.2.1 119 3 = 0) ↔ fb_ct (wb (m2.2.1 119)) 256 = 0 := by
          have := wm_or (m2.2.1 119) (m2.2.1 119)
          rw [Int64.and_self, Int64.and_self, Int64.and_self, Int64.and_self, wm_self] at this
          rw [this]
          constructor
          · intro x
            by_cases c : fb_ct (wb (m2.2.1 119)) 256 = 0
            · exact c
            · rw [decide_eq_false c] at x; cases x
          · intro x
            rw [decide_eq_true x]
            rfl
        rw [show (0 : Int32).toNatClampNeg = 0 from rfl, show (1 : Int32).toNatClampNeg = 1 from rfl, show (2 : Int32).toNatClampNeg = 2 from rfl, show (3 : Int32).toNatClampNeg = 3 from rfl, lg_z, e0, fb_ct_cong w2]
        refine ⟨fun x => skip m2 f2 ?_, fun x => hit m2 f2 ?_⟩
        · unfold wrg
          rw [y, decide_eq_false x, Bool.false_or, Bool.and_false, Bool.and_false]
        · unfold wrg
          rw [decide_eq_true x, Bool.or_true]
      | succ d ihd =>
        intro k m2 hk f2 w2
        have hk60 : k < 60 := by omega
        have e115 : m2.1 115 = m.1 115 := f2.1 115 (by decide) (by decide)
        refine B_X11_check_62 m2 Q _ _ _ ⟨fun y => absurd ((iI_le (by omega) (by omega) (by omega) (by omega)).mp y) (by omega), fun _ => S_msi m2 _ k (by omega) (B_X11_check_72 m2 Q _ _ _ _ ?_)⟩
        rw [msi_fr f2 (by decide), iI_i1]
        have nx : (msi m (k : Int) && decide (m.1 132 k = m.1 132 i)) = false → am_WP YL 225 0 0 62 [some (.ref 109), some (.int (iI (i : Int))), some (.int (bI (cal (fun i => msi m (i : Int)) (m.1 132) (mak m) i k))), some (.int (iI ((k : Int) + 1))), none] [] m2 Q := by
          intro zz
          have e1 : cal (fun i => msi m (i : Int)) (m.1 132) (mak m) i (k + 1) = cal (fun i => msi m (i : Int)) (m.1 132) (mak m) i k := by
            show (cal (fun i => msi m (i : Int)) (m.1 132) (mak m) i k || ((msi m (k : Int) && decide (m.1 132 k = m.1 132 i)) && mak m i k)) = _
            rw [zz, Bool.false_and, Bool.or_false]
          have := ihd (k + 1) m2 (by omega) f2 (fun q hq => by
            show _ = (cin (fun i => msi m (i : Int)) (m.1 132) (fun i => wb (mv m 116 i)) i k q && (!(msi m (k : Int) && decide (m.1 132 k = m.1 132 i)) || wb (mv m 116 k) q))
            rw [zz, w2 q hq, Bool.not_false, Bool.true_or, Bool.and_true])
          rw [e1] at this
          exact this
        refine bz (fun y => nx (by rw [y, Bool.false_and])) (fun y => ?_)
        rw [iI_cl (a := (k : Int)) (by omega) (by omega), iI_cl (a := (i : Int)) (by omega) (by omega), Int.toNat_natCast, Int.toNat_natCast, iI_in (a := (k : Int)) (by omega) (by omega), iI_in (a := (i : Int)) (by omega) (by omega), f2.1 132 (by decide) (by decide)]
        refine ⟨by omega, by omega, fun x => ?_, fun x => nx (by rw [decide_eq_false x, Bool.and_false])⟩
        have zz : (msi m (k : Int) && decide (m.1 132 k = m.1 132 i)) = true := by rw [y, decide_eq_true x]; rfl
        -- the four words
        have words : ∀ b, b = cal (fun i => msi m (i : Int)) (m.1 132) (mak m) i (k + 1) → am_WP YL 225 0 0 115 [some (.ref 109), some (.int (iI (i : Int))), some (.int (bI b)), some (.int (iI (k : Int))), some (.int 0)] [] m2 Q := by
          intro b hb
          have := lp (N := 4) (W := fun w m3 => am_WP YL 225 0 0 115 [some (.ref 109), some (.int (iI (i : Int))), some (.int (bI b)), some (.int (iI (k : Int))), some (.int (iI (w : Int)))] [] m3 Q) (fun w m3 => Fm [119] [] m m3 ∧ ∀ j, m3.2.1 119 j = if j < w then m2.2.1 119 j &&& m.2.1 116 (4 * k + j) else m2.2.1 119 j) (s := m2) ⟨f2, fun j => by rw [if_neg (Nat.not_lt_zero j)]⟩ ?_ ?_
          · exact this
          · rintro w m3 hw ⟨f3, b3⟩ ihw
            refine B_X11_check_115 m3 Q _ _ _ _ ?_
            simp (disch := omega) only [iI_lit, iI_add, iI_mul, iI_le, iI_in, iI_cl, Int.toNat_natCast]
            rw [show (4 * (k : Int) + (w : Int)).toNat = 4 * k + w by omega, f3.2.1 116 (by decide)]
            refine ⟨fun z => by omega, fun _ => ⟨by omega, by omega, by omega, ihw _ ⟨f3.pJ (by decide) _ _, fun j => ?_⟩⟩⟩
            rw [am_pJ_at, b3 j, b3 w, if_neg (Nat.lt_irrefl w)]
            by_cases c : j = w
            · rw [if_pos c, if_pos (show j < w + 1 by omega), c]
            · rw [if_neg c]
              by_cases c2 : j < w
              · rw [if_pos c2, if_pos (show j < w + 1 by omega)]
              · rw [if_neg c2, if_neg (show ¬ j < w + 1 by omega)]
          · rintro m3 ⟨f3, b3⟩
            refine B_X11_check_115 m3 Q _ _ _ _ ⟨fun _ => ?_, fun z => absurd (show (4 : Int32) ≤ iI ((4 : Nat) : Int) by decide) z⟩
            rw [iI_i1, hb]
            refine ihd (k + 1) m3 (by omega) f3 (fun q hq => ?_)
            have := w2 q hq
            show _ = (cin (fun i => msi m (i : Int)) (m.1 132) (fun i => wb (mv m 116 i)) i k q && (!(msi m (k : Int) && decide (m.1 132 k = m.1 132 i)) || wb (mv m 116 k) q))
            rw [zz, ← this]
            unfold wb mv
            rw [b3, if_pos (by omega), zw_and]
            rfl
        have ec : cal (fun i => msi m (i : Int)) (m.1 132) (mak m) i (k + 1) = (cal (fun i => msi m (i : Int)) (m.1 132) (mak m) i k || mak m i k) := by
          show (cal (fun i => msi m (i : Int)) (m.1 132) (mak m) i k || ((msi m (k : Int) && decide (m.1 132 k = m.1 132 i)) && mak m i k)) = _
          rw [zz, Bool.true_and]
        have ea : mak m2 i k = mak m i k := by unfold mak; rw [e115]
        refine bz' (fun v => S_alike m2 _ i k hi hk60 (B_X11_check_103 m2 Q _ _ _ ?_)) (fun v => words true (by rw [ec, v, Bool.true_or]))
        rw [ea]
        exact bz (fun u => words false (by rw [ec, v, u]; rfl)) (fun u => words true (by rw [ec, v, u]; rfl))
    have := lp (N := 4) (W := fun w m3 => am_WP YL 225 0 0 33 [some (.ref 109), some (.int (iI (i : Int))), some (.int 0), some (.int (iI (w : Int))), none] [] m3 Q) (fun w m3 => Fm [119] [] m m3 ∧ ∀ j, j < w → m3.2.1 119 j = m.2.1 116 (4 * i + j)) (s := m1) ⟨g1, fun j hj => absurd hj (Nat.not_lt_zero j)⟩ ?_ ?_
    · exact this
    · rintro w m3 hw ⟨f3, b3⟩ ihw
      refine B_X11_check_33 m3 Q _ _ _ ?_
      rw [iI_cl (a := (w : Int)) (by omega) (by omega), Int.toNat_natCast, iI_in (a := (w : Int)) (by omega) (by omega), show (4 : Int32) = iI 4 from rfl, iI_le (a := 4) (by omega) (by omega) (by omega) (by omega), iI_mul, iI_add, iI_cl (by omega) (by omega), iI_in (by omega) (by omega), show (4 * (i : Int) + (w : Int)).toNat = 4 * i + w by omega, f3.2.1 116 (by decide), iI_i1]
      refine ⟨fun z => by omega, fun _ => ⟨by omega, by omega, ihw _ ⟨f3.pJ (by decide) _ _, fun j hj => ?_⟩⟩⟩
      rw [am_pJ_at]
      by_cases c : j = w
      · rw [if_pos c, c]
      · rw [if_neg c]
        exact b3 j (by omega)
    · rintro m3 ⟨f3, b3⟩
      refine B_X11_check_33 m3 Q _ _ _ ⟨fun _ => ?_, fun z => absurd (show (4 : Int32) ≤ iI ((4 : Nat) : Int) by decide) z⟩
      have := walk i 0 m3 (by omega) f3 (fun q hq => by
        show _ = wb (mv m 116 i) q
        unfold wb mv
        rw [b3 _ (by omega)])
      exact this
  · rintro m1 ⟨g1, g2⟩
    refine B_X11_check_2 m1 Q _ ⟨fun _ => ?_, fun z => absurd (show (60 : Int32) ≤ iI ((60 : Nat) : Int) by decide) z⟩
    have := h m1 g1
    unfold chk at this
    rw [kth_none0 g2] at this
    exact this
