/-! ===== the middle of a set ===== -/
def dst (a b : Nat) : Nat := if a ≤ b then b - a else a - b
theorem dst_b {a b n : Nat} (ha : a ≤ n) (hb : b ≤ n) : dst a b ≤ n := by
  unfold dst
  split <;> omega
theorem dst_i (a b : Nat) : (if (0 : Int) ≤ (a : Int) - (b : Int) then (a : Int) - (b : Int) else 0 - ((a : Int) - (b : Int))) = (dst a b : Int) := by
  unfold dst
  split <;> split <;> omega
theorem dst_c (a b : Nat) : dst a b = dst b a := by
  unfold dst
  split <;> split <;> omega
def td (p : Nat → Bool) (s : Nat) : Nat → Nat
  | 0 => 0
  | k + 1 => td p s k + (if p k = true then dst (s / 16) (k / 16) + dst (s % 16) (k % 16) else 0)
def sw (c : Nat → Nat) (x : Nat) : Nat → Nat
  | 0 => 0
  | n + 1 => sw c x n + c n * dst n x
theorem sw_add (c : Nat → Nat) (x r0 : Nat) (b : Bool) : ∀ n, sw (fun r => c r + if (b && decide (r0 = r)) = true then 1 else 0) x n = sw c x n + (if b = true ∧ r0 < n then dst r0 x else 0)
  | 0 => by
    rw [if_neg (fun z => Nat.not_lt_zero _ z.2)]
    rfl
  | n + 1 => by
    have h := sw_add c x r0 b n
    show sw (fun r => c r + if (b && decide (r0 = r)) = true then 1 else 0) x n + (c n + if (b && decide (r0 = n)) = true then 1 else 0) * dst n x = sw c x n + c n * dst n x + _
    rw [h, Nat.add_mul]
    cases b
    · rw [if_neg (fun z => by cases z.1), Bool.false_and, if_neg (by decide : ¬ false = true), if_neg (fun z => by cases z.1), Nat.zero_mul]
      omega
    · by_cases e : r0 = n
      · subst e
        rw [if_neg (fun z => Nat.lt_irrefl _ z.2), if_pos (by rw [decide_eq_true rfl]; rfl), if_pos ⟨rfl, Nat.lt_succ_self _⟩, Nat.one_mul]
        omega
      · rw [decide_eq_false e, Bool.and_false, if_neg (by decide : ¬ false = true), Nat.zero_mul]
        by_cases l : r0 < n
        · rw [if_pos ⟨rfl, l⟩, if_pos ⟨rfl, by omega⟩]
          omega
        · rw [if_neg (fun z => l z.2), if_neg (fun z => by have := z.2; omega)]
          omega
theorem sw_cong {c d : Nat → Nat} {x : Nat} : ∀ n, (∀ r, r < n → c r = d r) → sw c x n = sw d x n
  | 0, _ => rfl
  | n + 1, h => by
    show sw c x n + c n * dst n x = sw d x n + d n * dst n x
    rw [sw_cong n (fun r hr => h r (by omega)), h n (Nat.lt_succ_self n)]
theorem td_sw (p : Nat → Bool) (s : Nat) : ∀ k, k ≤ 256 → td p s k = sw (fun r => fb_ct (fun o => p o && decide (o / 16 = r)) k) (s / 16) 16 + sw (fun c => fb_ct (fun o => p o && decide (o % 16 = c)) k) (s % 16) 16
  | 0, _ => by
    have z : ∀ x n, sw (fun _ => 0) x n = 0 := by
      intro x n
      induction n with
      | zero => rfl
      | succ n ih =>
        show sw (fun _ => 0) x n + 0 * dst n x = 0
        rw [ih, Nat.zero_mul]
    show 0 = sw (fun _ => 0) _ _ + sw (fun _ => 0) _ _
    rw [z, z]
  | k + 1, hk => by
    have h := td_sw p s k (by omega)
    show td p s k + (if p k = true then dst (s / 16) (k / 16) + dst (s % 16) (k % 16) else 0) = sw (fun r => fb_ct (fun o => p o && decide (o / 16 = r)) k + if (p k && decide (k / 16 = r)) = true then 1 else 0) (s / 16) 16 + sw (fun c => fb_ct (fun o => p o && decide (o % 16 = c)) k + if (p k && decide (k % 16 = c)) = true then 1 else 0) (s % 16) 16
    rw [sw_add, sw_add, h]
    by_cases c : p k = true
    · rw [if_pos c, if_pos ⟨c, by omega⟩, if_pos ⟨c, by omega⟩, dst_c (s / 16), dst_c (s % 16)]
      omega
    · rw [if_neg c, if_neg (fun z => c z.1), if_neg (fun z => c z.1)]
      omega
theorem td_b (p : Nat → Bool) {s : Nat} (hs : s < 256) : ∀ k, k ≤ 256 → td p s k ≤ 30 * k
  | 0, _ => Nat.le_refl _
  | k + 1, hk => by
    have h := td_b p hs k (by omega)
    have d1 := dst_b (show s / 16 ≤ 15 by omega) (show k / 16 ≤ 15 by omega)
    have d2 := dst_b (show s % 16 ≤ 15 by omega) (show k % 16 ≤ 15 by omega)
    show td p s k + (if p k = true then dst (s / 16) (k / 16) + dst (s % 16) (k % 16) else 0) ≤ _
    split <;> omega
def mdl (p : Nat → Bool) (sm : Nat → Nat) : Nat → Int × Int
  | 0 => (-1, 1000000000)
  | k + 1 => if p k = true ∧ (sm k : Int) < (mdl p sm k).2 then ((k : Int), (sm k : Int)) else mdl p sm k
theorem mdl_b (p : Nat → Bool) (sm : Nat → Nat) (h : ∀ s, s < 256 → sm s ≤ 7680) : ∀ k, k ≤ 256 → ((mdl p sm k).1 = -1 ∧ (mdl p sm k).2 = 1000000000) ∨ (0 ≤ (mdl p sm k).1 ∧ (mdl p sm k).1 < k ∧ 0 ≤ (mdl p sm k).2 ∧ (mdl p sm k).2 ≤ 7680)
  | 0, _ => Or.inl ⟨rfl, rfl⟩
  | k + 1, hk => by
    have hh := mdl_b p sm h k (by omega)
    have hs := h k (by omega)
    unfold mdl
    split
    · exact Or.inr ⟨by show (0 : Int) ≤ (k : Int); omega, by show (k : Int) < _; omega, by show (0 : Int) ≤ (sm k : Int); omega, by show (sm k : Int) ≤ 7680; omega⟩
    · omega
def mid (p : Nat → Bool) : Int := (mdl p (fun s => td p s 256) 256).1
theorem mid_b (p : Nat → Bool) : -1 ≤ mid p ∧ mid p < 256 := by
  have := mdl_b p (fun s => td p s 256) (fun s hs => by have := td_b p hs 256 (Nat.le_refl _); omega) 256 (Nat.le_refl _)
  unfold mid
  omega
theorem td_cong {p r : Nat → Bool} {s : Nat} : ∀ k, (∀ o, o < k → p o = r o) → td p s k = td r s k
  | 0, _ => rfl
  | k + 1, h => by
    show td p s k + _ = td r s k + _
    rw [td_cong k (fun o ho => h o (by omega)), h k (Nat.lt_succ_self k)]
theorem mdl_cong {p r : Nat → Bool} {sm sn : Nat → Nat} : ∀ k, (∀ o, o < k → p o = r o) → (∀ o, o < k → sm o = sn o) → mdl p sm k = mdl r sn k
  | 0, _, _ => rfl
  | k + 1, h1, h2 => by
    unfold mdl
    rw [mdl_cong k (fun o ho => h1 o (by omega)) (fun o ho => h2 o (by omega)), h1 k (Nat.lt_succ_self k), h2 k (Nat.lt_succ_self k)]
theorem mid_cong {p r : Nat → Bool} (h : ∀ q, q < 256 → p q = r q) : mid p = mid r := by
  unfold mid
  rw [mdl_cong 256 h (fun o _ => td_cong 256 h)]
theorem S_mmid (m : am_M) (Q : Option Value → am_M → Prop) (p : Nat → Bool) (hp : ∀ q, q < 256 → wb (mv m 119 0) q = p q) (h : Q (some (.int (iI (mid p)))) m) : am_WP YL 200 0 0 0 [some (.ref 109), none, none, none, none, none] [] m Q := by
  refine B_X11_middle_0 m Q ?_
  have bb := mdl_b p (fun s => td p s 256) (fun s hs => by have := td_b p hs 256 (Nat.le_refl _); omega)
  have := lp (N := 256) (W := fun k (_ : Unit) => am_WP YL 200 0 0 7 [some (.ref 109), some (.int (iI (mdl p (fun s => td p s 256) k).1)), some (.int (iI (mdl p (fun s => td p s 256) k).2)), some (.int (iI (k : Int))), none, none] [] m Q) (fun _ _ => True) (s := ()) trivial ?_ ?_
  · exact this
  · intro k _ hk _ ih
    have ih := ih () trivial
    have b := bb k (by omega)
    refine B_X11_middle_7 m Q _ _ _ ⟨fun z => absurd ((iI_le (a := 256) (by omega) (by omega) (by omega) (by omega)).mp z) (by omega), fun _ => S_mhas m _ 119 4 0 k rfl rfl (by decide) (by decide) hk ?_⟩
    rw [hp k hk]
    refine B_X11_middle_23 m Q _ _ _ _ (bz' (fun z => ?_) (fun z => ?_))
    · have e : mdl p (fun s => td p s 256) (k + 1) = mdl p (fun s => td p s 256) k := if_neg (fun y => by rw [z] at y; cases y.1)
      rw [e] at ih
      rw [iI_i1]
      exact ih
    · have tb := td_b p hk
      have := lp (N := 256) (W := fun o (_ : Unit) => am_WP YL 200 0 0 35 [some (.ref 109), some (.int (iI (mdl p (fun s => td p s 256) k).1)), some (.int (iI (mdl p (fun s => td p s 256) k).2)), some (.int (iI (k : Int))), some (.int (iI (td p k o : Int))), some (.int (iI (o : Int)))] [] m Q) (fun _ _ => True) (s := ()) trivial ?_ ?_
      · exact this
      · intro o _ ho _ iho
        have iho := iho () trivial
        refine B_X11_middle_35 m Q _ _ _ _ _ ⟨fun z => absurd ((iI_le (a := 256) (by omega) (by omega) (by omega) (by omega)).mp z) (by omega), fun _ => S_mhas m _ 119 4 0 o rfl rfl (by decide) (by decide) ho ?_⟩
        rw [hp o ho]
        refine B_X11_middle_53 m Q _ _ _ _ _ _ (bz (fun y => ?_) (fun y => ?_))
        · have e : td p k (o + 1) = td p k o := by
            show td p k o + (if p o = true then _ else 0) = _
            rw [y]
            rfl
          rw [e] at iho
          rw [iI_i1]
          exact iho
        · have e : td p k (o + 1) = td p k o + (dst (k / 16) (o / 16) + dst (k % 16) (o % 16)) := by
            show td p k o + (if p o = true then _ else 0) = _
            rw [if_pos y]
          simp (disch := omega) only [iI_lit, iI_div, iI_mul, iI_sub, iI_le, iI_ite, iI_add]
          rw [show (k : Int) - (k : Int) / 16 * 16 = ((k % 16 : Nat) : Int) by omega, show (o : Int) - (o : Int) / 16 * 16 = ((o % 16 : Nat) : Int) by omega, show (k : Int) / 16 = ((k / 16 : Nat) : Int) from rfl, show (o : Int) / 16 = ((o / 16 : Nat) : Int) from rfl, dst_i, dst_i]
          rw [e] at iho
          exact iho
      · intro _ _
        have t256 := tb 256 (Nat.le_refl _)
        refine B_X11_middle_35 m Q _ _ _ _ _ ⟨fun _ => ?_, fun y => absurd (show (256 : Int32) ≤ iI ((256 : Nat) : Int) by decide) y⟩
        rw [iI_lt (by omega) (by omega) (by omega) (by omega), iI_i1]
        refine ⟨fun y => ?_, fun y => ?_⟩
        · have e : mdl p (fun s => td p s 256) (k + 1) = ((k : Int), (td p k 256 : Int)) := if_pos ⟨z, y⟩
          rw [e] at ih
          exact ih
        · have e : mdl p (fun s => td p s 256) (k + 1) = mdl p (fun s => td p s 256) k := if_neg (fun x => y x.2)
          rw [e] at ih
          exact ih
  · intro _ _
    exact B_X11_middle_7 m Q _ _ _ ⟨fun _ => h, fun z => absurd (show (256 : Int32) ≤ iI ((256 : Nat) : Int) by decide) z⟩
theorem sw_b {c : Nat → Nat} {x : Nat} (hx : x ≤ 15) (hc : ∀ n, c n ≤ 256) : ∀ n, n ≤ 16 → sw c x n ≤ 3840 * n
  | 0, _ => Nat.le_refl _
  | n + 1, hn => by
    have h := sw_b hx hc n (by omega)
    have d := dst_b (show n ≤ 15 by omega) hx
    have hm : c n * dst n x ≤ 256 * 15 := Nat.mul_le_mul (hc n) d
    show sw c x n + c n * dst n x ≤ _
    omega
theorem S_sumOfWays (m : am_M) (Q : Option Value → am_M → Prop) (a : Nat) (ha : am_k YL m a = (20, 16)) (hb : Nat.ble 3 a = true) (c : Nat → Nat) (hc : ∀ n, n < 16 → m.1 a n = iI (c n : Int)) (hcb : ∀ n, c n ≤ 256) (x : Nat) (hx : x ≤ 15) (h : Q (some (.int (iI (sw c x 16 : Int)))) m) : am_WP YL 36 0 0 0 [some (.ref a), some (.int (iI (x : Int))), none, none] [] m Q := by
  refine B_X2_sumOfWays_0 m Q a 16 ha hb _ ?_
  have := lp (N := 16) (W := fun n (_ : Unit) => am_WP YL 36 0 0 4 [some (.ref a), some (.int (iI (x : Int))), some (.int (iI (sw c x n : Int))), some (.int (iI (n : Int)))] [] m Q) (fun _ _ => True) (s := ()) trivial ?_ ?_
  · exact this
  · intro n _ hn _ ih
    have ih := ih () trivial
    have sb := sw_b hx hcb n (by omega)
    have hm : c n * dst n x ≤ 256 * 15 := Nat.mul_le_mul (hcb n) (dst_b (show n ≤ 15 by omega) hx)
    refine B_X2_sumOfWays_4 m Q a 16 ha hb _ _ _ ?_
    rw [iI_cl (a := (n : Int)) (by omega) (by omega), Int.toNat_natCast, hc n hn]
    simp (disch := omega) only [iI_lit, iI_ofNat, iI_sub, iI_le, iI_in, iI_ite]
    rw [dst_i, iI_mul, iI_add, iI_add]
    exact ⟨fun z => by omega, fun _ => ⟨by omega, ih⟩⟩
  · intro _ _
    exact B_X2_sumOfWays_4 m Q a 16 ha hb _ _ _ ⟨fun _ => h, fun z => absurd (show Int32.ofNat 16 ≤ iI ((16 : Nat) : Int) by decide) z⟩
theorem S_middleOf (m : am_M) (Q : Option Value → am_M → Prop) (f : Int) (hbf : -2147483648 ≤ f ∧ f ≤ 2147483647) (h : ∀ m1, Ag [45, 46] m m1 → Q (some (.int (iI (mid (wb (m.2.1 (pch m f + 1))))))) m1) : am_WP YL 35 0 0 0 [some (.ref 38), some (.int (iI f)), none, none, none, none, none] [] m Q := by
  refine B_X2_middleOf_0 m Q _ (S_patchOf m _ f hbf ?_)
  have ha := pch_ok m f
  generalize pch m f = a at h ha ⊢
  have hs : ∀ m1, Ag [45, 46] m m1 → sw_sq m1 a := fun m1 f1 => f1.sq ha
  generalize hpe : wb (m.2.1 (a + 1)) = p at h
  have nin : a + 1 ∉ [45, 46] := by
    intro z
    have h3 := ha.2.2.1
    rcases List.mem_cons.mp z with z | z
    · rw [z] at h3; exact absurd h3 (show ¬ ((20, 16) : Nat × Nat) = (21, 4) by decide)
    · rw [List.mem_singleton.mp z] at h3; exact absurd h3 (show ¬ ((20, 16) : Nat × Nat) = (21, 4) by decide)
  have hw : ∀ m1, Ag [45, 46] m m1 → ∀ q, wb (m1.2.1 (a + 1)) q = p q := fun m1 f1 q => by rw [f1.J nin, hpe]
  refine B_X2_middleOf_5r m Q a ha (S_fillI m _ 45 16 rfl rfl (by decide) 0 (B_X2_middleOf_14 _ Q a (by exact ha) (S_fillI _ _ 46 16 rfl rfl (by decide) 0 (B_X2_middleOf_22 _ Q a (by exact ha) ?_))))
  have le : ∀ (g : Nat → Bool) k, k ≤ 256 → fb_ct g k ≤ 256 := fun g k hk => by have := fb_ct_le g k; omega
  have second : ∀ m1, Ag [45, 46] m m1 → (∀ r, r < 16 → m1.1 45 r = iI (fb_ct (fun o => p o && decide (o / 16 = r)) 256 : Int)) → (∀ r, r < 16 → m1.1 46 r = iI (fb_ct (fun o => p o && decide (o % 16 = r)) 256 : Int)) → am_WP YL 35 0 0 78 [some (.ref 38), none, some (.ref a), some (.int (-1)), some (.int 0), some (.int 0), none] [] m1 Q := by
    intro m1 f1 r1 c1
    have bb := mdl_b p (fun s => td p s 256) (fun s hs => by have := td_b p hs 256 (Nat.le_refl _); omega)
    have ha1 := hs m1 f1
    have := lp (N := 256) (W := fun k (l : Int) => am_WP YL 35 0 0 78 [some (.ref 38), none, some (.ref a), some (.int (iI (mdl p (fun s => td p s 256) k).1)), some (.int (iI l)), some (.int (iI (k : Int))), none] [] m1 Q) (fun k l => 0 ≤ l ∧ l ≤ 7680 ∧ ((mdl p (fun s => td p s 256) k).1 ≠ -1 → l = (mdl p (fun s => td p s 256) k).2)) (s := (0 : Int)) ⟨by omega, by omega, fun z => absurd rfl z⟩ ?_ ?_
    · exact this
    · rintro k l hk ⟨l1, l2, l3⟩ ih
      have b := bb k (by omega)
      refine B_X2_middleOf_78 m1 Q a ha1 _ _ _ ⟨fun z => absurd ((iI_le (a := 256) (by omega) (by omega) (by omega) (by omega)).mp z) (by omega), fun _ => S_has m1 _ a ha1 k hk ?_⟩
      rw [hw m1 f1]
      refine B_X2_middleOf_92 m1 Q a ha1 _ _ _ _ (bz (fun z => ?_) (fun z => ?_))
      · have e : mdl p (fun s => td p s 256) (k + 1) = mdl p (fun s => td p s 256) k := if_neg (fun y => by rw [z] at y; cases y.1)
        have := ih l ⟨l1, l2, by rw [e]; exact l3⟩
        rw [e] at this
        rw [iI_i1]
        exact this
      · have tk := td_b p hk 256 (Nat.le_refl _)
        have ts := td_sw p k 256 (Nat.le_refl _)
        rw [show iI (k : Int) >>> ((4 : Int32) &&& 31) = iI ((k / 16 : Nat) : Int) from iI_s4 (a := (k : Int)) (by omega) (by omega)]
        refine S_sumOfWays m1 _ 45 rfl rfl _ r1 (fun n => le _ 256 (Nat.le_refl _)) (k / 16) (by omega) (B_X2_middleOf_106 m1 Q a ha1 _ _ _ _ ?_)
        rw [show iI (k : Int) &&& (15 : Int32) = iI ((k % 16 : Nat) : Int) from iI_m15 (a := (k : Int)) (by omega) (by omega)]
        refine S_sumOfWays m1 _ 46 rfl rfl _ c1 (fun n => le _ 256 (Nat.le_refl _)) (k % 16) (by omega) (B_X2_middleOf_118 m1 Q a ha1 _ _ _ _ _ ?_)
        have es : iI ((sw (fun r => fb_ct (fun o => p o && decide (o / 16 = r)) 256) (k / 16) 16 : Nat) : Int) + iI ((sw (fun c => fb_ct (fun o => p o && decide (o % 16 = c)) 256) (k % 16) 16 : Nat) : Int) = iI (td p k 256 : Int) := by
          rw [iI_add, ts]
          rfl
        rw [es, show (-1 : Int32) = iI (-1) from rfl, iI_eq (by omega) (by omega) (by omega) (by omega), iI_le (by omega) (by omega) (by omega) (by omega), iI_i1]
        have take : (td p k 256 : Int) < (mdl p (fun s => td p s 256) k).2 → am_WP YL 35 0 0 78 [some (.ref 38), none, some (.ref a), some (.int (iI (k : Int))), some (.int (iI (td p k 256 : Int))), some (.int (iI ((k : Int) + 1))), none] [] m1 Q := by
          intro y
          have e : mdl p (fun s => td p s 256) (k + 1) = ((k : Int), (td p k 256 : Int)) := if_pos ⟨z, y⟩
          have := ih (td p k 256 : Int) ⟨by omega, by omega, fun _ => by rw [e]⟩
          rw [e] at this
          exact this
        refine ⟨fun y => take (by omega), fun y => ⟨fun x => ?_, fun x => take (by have := l3 y; omega)⟩⟩
        have := l3 y
        have e : mdl p (fun s => td p s 256) (k + 1) = mdl p (fun s => td p s 256) k := if_neg (fun w => by have := w.2; dsimp only at this; omega)
        have := ih l ⟨l1, l2, by rw [e]; exact l3⟩
        rw [e] at this
        exact this
    · rintro l ⟨l1, l2, l3⟩
      exact B_X2_middleOf_78 m1 Q a ha1 _ _ _ ⟨fun _ => h m1 f1, fun z => absurd (show (256 : Int32) ≤ iI ((256 : Nat) : Int) by decide) z⟩
  have := lp (N := 256) (W := fun k m1 => am_WP YL 35 0 0 24 [some (.ref 38), none, some (.ref a), some (.int (iI (k : Int))), none, none, none] [] m1 Q) (fun k m1 => Ag [45, 46] m m1 ∧ (∀ r, r < 16 → m1.1 45 r = iI (fb_ct (fun o => p o && decide (o / 16 = r)) k : Int)) ∧ (∀ r, r < 16 → m1.1 46 r = iI (fb_ct (fun o => p o && decide (o % 16 = r)) k : Int))) (s := am_wI (am_wI m 45 (am_fx 16 (fun _ => 0) (m.1 45))) 46 (am_fx 16 (fun _ => 0) ((am_wI m 45 (am_fx 16 (fun _ => 0) (m.1 45))).1 46))) ⟨((Ag.rf _ m).wI (by decide) _).wI (by decide) _, ?_, ?_⟩ ?_ ?_
  · exact this
  · intro r hr
    rw [am_wI_ne (by decide), am_wI_at, am_fx_lt hr]
    rfl
  · intro r hr
    rw [am_wI_at, am_fx_lt hr]
    rfl
  · rintro k m1 hk ⟨f1, r1, c1⟩ ih
    have ha1 := hs m1 f1
    refine B_X2_middleOf_24 m1 Q a ha1 _ ⟨fun z => absurd ((iI_le (a := 256) (by omega) (by omega) (by omega) (by omega)).mp z) (by omega), fun _ => S_has m1 _ a ha1 k hk ?_⟩
    rw [hw m1 f1]
    refine B_X2_middleOf_36 m1 Q a ha1 _ _ (bz (fun z => ?_) (fun z => ?_))
    · rw [iI_i1]
      refine ih m1 ⟨f1, fun r hr => ?_, fun r hr => ?_⟩
      · rw [fb_ct_succ, z]
        exact r1 r hr
      · rw [fb_ct_succ, z]
        exact c1 r hr
    · rw [show iI (k : Int) >>> ((4 : Int32) &&& 31) = iI ((k / 16 : Nat) : Int) from iI_s4 (a := (k : Int)) (by omega) (by omega), show iI (k : Int) &&& (15 : Int32) = iI ((k % 16 : Nat) : Int) from iI_m15 (a := (k : Int)) (by omega) (by omega), iI_cl (by omega) (by omega), iI_cl (by omega) (by omega), Int.toNat_natCast, Int.toNat_natCast, iI_in (by omega) (by omega), iI_in (by omega) (by omega), am_pI_ne (by decide), r1 _ (by omega), c1 _ (by omega), iI_i1, iI_i1, iI_i1]
      refine ⟨by omega, by omega, by omega, by omega, ih _ ⟨(f1.pI (by decide) _ _).pI (by decide) _ _, fun r hr => ?_, fun r hr => ?_⟩⟩
      · rw [am_pI_ne (by decide), am_pI_at, fb_ct_succ, z, Bool.true_and]
        by_cases c : r = k / 16
        · rw [if_pos c, c, decide_eq_true rfl]
          rfl
        · rw [if_neg c, decide_eq_false (fun e => c e.symm)]
          exact r1 r hr
      · rw [am_pI_at, fb_ct_succ, z, Bool.true_and]
        by_cases c : r = k % 16
        · rw [if_pos c, c, decide_eq_true rfl]
          rfl
        · rw [if_neg c, decide_eq_false (fun e => c e.symm), am_pI_ne (by decide)]
          exact c1 r hr
  · rintro m1 ⟨f1, r1, c1⟩
    exact B_X2_middleOf_24 m1 Q a (hs m1 f1) _ ⟨fun _ => second m1 f1 r1 c1, fun z => absurd (show (256 : Int32) ≤ iI ((256 : Nat) : Int) by decide) z⟩
