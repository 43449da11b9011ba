/-! ===== the class's fewest ===== -/
def csl (m : am_M) (l1 l2 : Int32) (i : Nat) : Bool := match am_gR YL m 35 i with
  | none => false
  | some e => !decide (m.1 e 0 = 5) && (!decide (m.1 e 1 < l1) && !decide (l2 < m.1 e 1))
def cON (m : am_M) (sel : Nat → Bool) (g : Nat) : Prop := ONE (fun i j => cak m (brn sel 60 j) (brn sel 60 i)) (fun j q => has m (brn sel 60 j) q) g
theorem csl_sg {m : am_M} {l1 l2 : Int32} {i : Nat} (h : csl m l1 l2 i = true) : ∃ e, am_gR YL m 35 i = some e ∧ ¬ m.1 e 0 = 5 := by
  unfold csl at h
  cases hr : am_gR YL m 35 i with
  | none => rw [hr] at h; cases h
  | some e =>
    rw [hr] at h
    refine ⟨e, rfl, fun z => ?_⟩
    dsimp only at h
    rw [decide_eq_true z] at h
    cases h
theorem S_cfewest (m : am_M) (Q : Option Value → am_M → Prop) (hB : BK m) (hS : SG m) (l1 l2 : Int32)
    (h0 : ∀ m1, Ar [102, 103, 104, 106] m m1 → (10 < fb_ct (csl m l1 l2) 60 ∨ ∃ i, i < 60 ∧ csl m l1 l2 i = true ∧ ∀ q, q < 256 → has m i q = false) → Q (some (.int (-1))) m1)
    (h1 : ∀ m1 F, Ar [102, 103, 104, 106] m m1 → fb_ct (csl m l1 l2) 60 ≤ 10 → (∀ i, i < 60 → csl m l1 l2 i = true → ∃ q, q < 256 ∧ has m i q = true) → F 0 = 0 → (∀ g, 0 < g → g < 2 ^ fb_ct (csl m l1 l2) 60 → FL (cON m (csl m l1 l2)) F g ∧ F g ≤ 10) → Q (some (.int (iI (F (2 ^ fb_ct (csl m l1 l2) 60 - 1) : Int)))) m1) :
    am_WP YL 132 0 0 0 [some (.ref 3), some (.int l1), some (.int l2), none, none] [] m Q := by
  have lt : ∀ a, a ∈ [102, 103] → a < 133 := by decide
  have lt4 : ∀ a, a ∈ [102, 103, 104, 106] → a < 133 := by decide
  refine B_X10_fewest_0 m Q _ _ (S_start m _ (fun m0 f0 G0 => B_X10_fewest_7 m0 Q _ _ ?_))
  have := lp (N := 60) (W := fun k m1 => am_WP YL 132 0 0 9 [some (.ref 3), some (.int l1), some (.int l2), some (.int (iI (k : Int))), none] [] m1 Q) (fun k m1 => Ar [102, 103] m m1 ∧ ∃ tk ts, GT m1 (fb_ct (csl m l1 l2) k) tk ts ∧ ∀ i, i < k → csl m l1 l2 i = true → am_gR YL m 35 i = some (tk (fb_ct (csl m l1 l2) i)) ∧ am_gR YL m (tk (fb_ct (csl m l1 l2) i)) 4 = some (ts (fb_ct (csl m l1 l2) i))) (s := m0) ⟨f0.sub (by decide), fun _ => 0, fun _ => 0, G0, fun i hi => absurd hi (Nat.not_lt_zero i)⟩ ?_ ?_
  · exact this
  · rintro k m1 hk ⟨f1, tk, ts, G1, t1⟩ ih
    have hB1 : BK m1 := hB.fr f1 lt (by decide)
    have skip : csl m l1 l2 k = false → am_WP YL 132 0 0 9 [some (.ref 3), some (.int l1), some (.int l2), some (.int (iI ((k : Int) + 1))), none] [] m1 Q := by
      intro z
      refine ih m1 ⟨f1, tk, ts, ?_, fun i hi hs => ?_⟩
      · rw [fb_ct_succ, z]
        exact G1
      · by_cases c : i = k
        · rw [c, z] at hs
          cases hs
        · exact t1 i (by omega) hs
    refine B_X10_fewest_9 m1 Q _ _ _ ⟨fun z => absurd ((iI_le (a := 60) (by omega) (by omega) (by omega) (by omega)).mp z) (by omega), fun _ => S_entryAt m1 _ hB1 k (by omega) ?_⟩
    rw [cent_n m1 hk, f1.R (by decide)]
    cases hr : am_gR YL m 35 k with
    | none =>
      refine B_X10_fewest_23n m1 Q _ _ _ ?_
      rw [iI_i1]
      exact skip (by unfold csl; rw [hr])
    | some e =>
      have hen := hB k hk e hr
      have he1 := hen.fr f1 lt
      have ei : m1.1 e = m.1 e := f1.I (fun z => by have := lt _ z; have := hen.2.1; omega)
      have es : csl m l1 l2 k = (!decide (m.1 e 0 = 5) && (!decide (m.1 e 1 < l1) && !decide (l2 < m.1 e 1))) := by unfold csl; rw [hr]
      refine B_X10_fewest_23r m1 Q _ _ _ e he1.1 (S_eSight m1 _ e he1.1 (B_X10_fewest_35 m1 Q _ _ _ e he1.1 _ ?_))
      rw [ei, iI_i1]
      refine bz (fun y => skip (by rw [es, y]; rfl)) (fun y => ⟨fun z => skip (by rw [es, decide_eq_true z]; simp), fun z => ⟨fun w => skip (by rw [es, decide_eq_true w]; simp), fun w => ?_⟩⟩)
      have sel : csl m l1 l2 k = true := by rw [es, y, decide_eq_false z, decide_eq_false w]; rfl
      have k5 : ¬ m.1 e 0 = 5 := fun x => by rw [decide_eq_true x] at y; cases y
      obtain ⟨s, hs⟩ : ∃ s, am_gR YL m e 4 = some s := by
        cases hq : am_gR YL m e 4 with
        | none => exact absurd ((hS k hk e hr).mp hq) k5
        | some s => exact ⟨s, rfl⟩
      have sb := hen.2.2.2 s hs
      have hs1 : am_gR YL m1 e 4 = some s := by rw [f1.R (fun z => by have := lt _ z; have := hen.2.1; omega)]; exact hs
      have hh : ∀ q, has m k q = wb (m.2.1 (s + 1)) q := fun q => by
        unfold has csq
        rw [cent_n m hk, hr]
        dsimp only
        rw [hs]
      have ej : m1.2.1 (s + 1) = m.2.1 (s + 1) := f1.J (fun z => by have := lt _ z; omega)
      refine S_gtake m1 _ _ tk ts G1 e s he1 hs1 (fun z => B_X10_fewest_65 m1 Q _ _ _ _ ⟨fun x => absurd rfl x, fun _ => h0 m1 (f1.sub (by decide)) ?_⟩) (fun hn hq m2 f2 G2 => B_X10_fewest_65 m2 Q _ _ _ _ ⟨fun _ => ?_, fun x => absurd x (by decide)⟩)
      · rcases z with z | z
        · have a := fb_ct_mono (csl m l1 l2) (show k + 1 ≤ 60 by omega)
          rw [fb_ct_succ, sel, z] at a
          exact Or.inl a
        · exact Or.inr ⟨k, hk, sel, fun q hq => by rw [hh, ← ej]; exact z q hq⟩
      · rw [iI_i1]
        refine ih m2 ⟨f1.tr f2, fun j => if j = fb_ct (csl m l1 l2) k then e else tk j, fun j => if j = fb_ct (csl m l1 l2) k then s else ts j, ?_, fun i hi hsi => ?_⟩
        · rw [fb_ct_succ, sel]
          exact G2
        · dsimp only
          by_cases c : i = k
          · rw [c, if_pos rfl, if_pos rfl]
            exact ⟨hr, hs⟩
          · have l : fb_ct (csl m l1 l2) i < fb_ct (csl m l1 l2) k := by
              have a := fb_ct_mono (csl m l1 l2) (show i + 1 ≤ k by omega)
              rw [fb_ct_succ, hsi] at a
              have : (if true = true then 1 else 0) = 1 := rfl
              omega
            rw [if_neg (by omega), if_neg (by omega)]
            exact t1 i (by omega) hsi
  · rintro m1 ⟨f1, tk, ts, G1, t1⟩
    have at' : ∀ j, j < fb_ct (csl m l1 l2) 60 → am_gR YL m 35 (brn (csl m l1 l2) 60 j) = some (tk j) ∧ am_gR YL m (tk j) 4 = some (ts j) ∧ brn (csl m l1 l2) 60 j < 60 := fun j hj => by
      obtain ⟨a, b, c⟩ := brn_ok hj
      have := t1 _ a b
      rw [c] at this
      exact ⟨this.1, this.2, a⟩
    have hh : ∀ j q, j < fb_ct (csl m l1 l2) 60 → has m (brn (csl m l1 l2) 60 j) q = wb (m1.2.1 (ts j + 1)) q := fun j q hj => by
      obtain ⟨a, b, c⟩ := at' j hj
      have sb := (hB _ c _ a).2.2.2 _ b
      unfold has csq
      rw [cent_n m c, a]
      dsimp only
      rw [b, f1.J (fun z => by have := lt _ z; omega)]
    refine B_X10_fewest_9 m1 Q _ _ _ ⟨fun _ => S_least m1 _ _ tk ts G1 (fun m2 F g2 F0 F1 => B_X10_fewest_83 m2 Q _ (h1 m2 F ((f1.sub (by decide)).tr (Ar.ag g2 (by decide))) G1.2.1 (fun i hi hs => ?_) F0 (fun g ga gb => ⟨FL_O gb (fun x hx => ?_) (F1 g ga gb).1, (F1 g ga gb).2⟩))), fun z => absurd (show (60 : Int32) ≤ iI ((60 : Nat) : Int) by decide) z⟩
    · have hl : fb_ct (csl m l1 l2) i < fb_ct (csl m l1 l2) 60 := by
        have a := fb_ct_mono (csl m l1 l2) (show i + 1 ≤ 60 by omega)
        rw [fb_ct_succ, hs] at a
        have : (if true = true then 1 else 0) = 1 := rfl
        omega
      obtain ⟨q, hq, w⟩ := (G1.2.2 _ hl).2.2.2
      refine ⟨q, hq, ?_⟩
      rw [← hh _ q hl, brn_at hs hi] at w
      exact w
    · refine ONE_cong (n := fb_ct (csl m l1 l2) 60) hx (fun i j hij hj => ?_) (fun j q hj hq => (hh j q hj).symm)
      obtain ⟨a, _, c⟩ := at' i (by omega)
      obtain ⟨a', _, c'⟩ := at' j hj
      have b1 := (hB _ c _ a).2.1
      have b2 := (hB _ c' _ a').2.1
      unfold cak
      rw [a, a']
      exact ecl_fr (f1.I (fun z => by have := lt _ z; omega)) (f1.I (fun z => by have := lt _ z; omega))
